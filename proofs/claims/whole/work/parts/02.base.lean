/-! THE ENGINE: worlds by index. A world is a list of cells; a reference is a place in it. -/
def lwg : List Cond := lw_tbl.filter goodWord
theorem lwg_in {w : Cond} (h : w ∈ lw_tbl) (hg : goodWord w = true) : w ∈ lwg := List.mem_filter.mpr ⟨h, hg⟩
theorem lwg_good : ∀ w ∈ lwg, (w.onTables && w.keeps) = true ∨ ∃ ty, w = .arrayClass ty := fun w h => good_of_word (List.mem_filter.mp h).2
abbrev MY : Type := MethodName × ByteArray × Nat × Option FieldType × Nat × Nat × Nat
abbrev MW : Type := List va_E
abbrev ML : Type := List (Nat × Value)
abbrev MP : Type := Option Value → MW → Prop
abbrev MB : Type := Instr × Nat × Nat × Int
def mcode (y : MY) : Cond := .code y.1 y.2.1 y.2.2.1 y.2.2.2.1
/-- what links a call -/
def mLk (y : MY) (n : Nat) : Prop := Cond.initialized y.1.cls ∈ lw_tbl ∧ mcode y ∈ lw_tbl ∧ (y.1.cls ≠ "java/lang/invoke/MethodHandle" ∧ y.1.cls ≠ "java/lang/invoke/VarHandle") ∧ (parseMethodDescriptor y.1.desc).map (fun d => d.parameters.length) = some n
def mLV (own : String) (idx : Nat) (y : MY) (n : Nat) : Prop := mLk y n ∧ Cond.methodLink own idx y.1 ∈ lw_tbl ∧ Cond.instanceMethod y.1 ∈ lw_tbl ∧ Cond.selects y.1.cls y.1 y.1 ∈ lw_tbl
def mLS (own : String) (idx : Nat) (y : MY) (n : Nat) : Prop := mLk y n ∧ Cond.methodLink own idx y.1 ∈ lw_tbl ∧ Cond.static y.1 ∈ lw_tbl
def mLI (own : String) (idx : Nat) (y : MY) (n : Nat) : Prop := mLk y n ∧ Cond.methodLink own idx y.1 ∈ lw_tbl ∧ Cond.instanceMethod y.1 ∈ lw_tbl ∧ y.1.name = "<init>" ∧ y.2.2.2.1 = none
def mLN (own : String) (idx : Nat) (y : MY) (n : Nat) : Prop := mLk y n ∧ (∃ host, Cond.methodLinkNest own idx y.1 host ∈ lw_tbl) ∧ Cond.instanceMethod y.1 ∈ lw_tbl ∧ y.1.name = "<init>" ∧ y.2.2.2.1 = none
