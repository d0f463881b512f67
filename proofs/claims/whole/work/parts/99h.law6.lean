/-! THE LAW, 6: its branches -/
abbrev rd (X : SX) (i : Int32) (q : Int) : Int32 := X.2.2 (i + kI q).toNatClampNeg
abbrev lg2 (a b : Int32) : Int64 := (a.toInt64 <<< ((kI 32).toInt64 &&& 63)) ||| (b.toInt64 &&& kL 4294967295)
theorem lg_cmp_self (a : Int64) : lg_cmp a a = kI 0 := by
  unfold lg_cmp
  simp
  rfl
set_option maxHeartbeats 4000000 in
theorem br_feed {X : SX} {c : CS} {m : MS} (h : IV c m) {nc ns : Nat} {i : Int32} (hr : rmC c nc ns) (hi : ∀ q : Int, 1 ≤ q ∧ q ≤ 4 → vp_in (i + kI q) X.2.1) (k : ∀ c' m' nc' ns', IV c' m' → rmC c' nc' ns' → WQ X 939 (LL i) [] (w2 c' m') nc' ns') : WQ X 156 (LL i) [] (w2 c m) nc ns := by
  refine sq_okX rfl [(.aload_n 1, 0, 0, 0)] 156 _ _ _ _ _ rfl (by decide +kernel) ?_
  show WQ X 157 (LL i) [.ref 0] _ _ _
  refine wl_read (y := mL_law) 1 (by decide +kernel) (by decide +kernel) (by decide +kernel) (by decide +kernel) (by decide +kernel) rfl (hi 1 (by omega)) ?_
  show WQ X 162 (LL i) [.int (rd X i 1), .ref 0] _ _ _
  refine wl_read (y := mL_law) 2 (by decide +kernel) (by decide +kernel) (by decide +kernel) (by decide +kernel) (by decide +kernel) rfl (hi 2 (by omega)) ?_
  show WQ X 167 (LL i) [.int (rd X i 2), .int (rd X i 1), .ref 0] _ _ _
  refine wl_read (y := mL_law) 3 (by decide +kernel) (by decide +kernel) (by decide +kernel) (by decide +kernel) (by decide +kernel) rfl (hi 3 (by omega)) ?_
  show WQ X 172 (LL i) [.int (rd X i 3), .int (rd X i 2), .int (rd X i 1), .ref 0] _ _ _
  refine wl_read (y := mL_law) 4 (by decide +kernel) (by decide +kernel) (by decide +kernel) (by decide +kernel) (by decide +kernel) rfl (hi 4 (by omega)) ?_
  show WQ X 177 (LL i) [.int (rd X i 4), .int (rd X i 3), .int (rd X i 2), .int (rd X i 1), .ref 0] _ _ _
  refine br (As := [.int (rd X i 1), .int (rd X i 2), .int (rd X i 3), .int (rd X i 4)]) (st_feed h (rd X i 1) (rd X i 2) (rd X i 3) (rd X i 4)) (pcC := 177) (pcM := 201) (iC := 13) (iM := 17) (by decide +kernel) kL_13 (by decide +kernel) kL_17 rfl ⟨_, rfl, rfl⟩ ⟨_, rfl, rfl⟩ ⟨Nat.le_of_ble_eq_true rfl, Nat.le_of_ble_eq_true rfl⟩ ⟨Nat.le_of_ble_eq_true rfl, Nat.le_of_ble_eq_true rfl⟩ hr (fun v hv => by simp only [List.mem_cons, List.not_mem_nil, or_false] at hv; rcases hv with rfl | rfl | rfl | rfl; exact noR_I _; exact noR_I _; exact noR_I _; exact noR_I _) (fun z => noR_I _) (fun z => Nat.le_of_ble_eq_true rfl) (fun v w nc ns hk => ?_) (fun z w nc ns hk => ?_) k
  · refine sq_okX rfl [(.aload_n 2, 0, 0, 0)] 180 _ _ _ _ _ rfl (by decide +kernel) ?_
    show WQ X 181 (LL i) [.ref 112, v] _ _ _
    refine wl_read (y := mL_law) 1 (by decide +kernel) (by decide +kernel) (by decide +kernel) (by decide +kernel) (by decide +kernel) rfl (hi 1 (by omega)) ?_
    show WQ X 186 (LL i) [.int (rd X i 1), .ref 112, v] _ _ _
    refine wl_read (y := mL_law) 2 (by decide +kernel) (by decide +kernel) (by decide +kernel) (by decide +kernel) (by decide +kernel) rfl (hi 2 (by omega)) ?_
    show WQ X 191 (LL i) [.int (rd X i 2), .int (rd X i 1), .ref 112, v] _ _ _
    refine wl_read (y := mL_law) 3 (by decide +kernel) (by decide +kernel) (by decide +kernel) (by decide +kernel) (by decide +kernel) rfl (hi 3 (by omega)) ?_
    show WQ X 196 (LL i) [.int (rd X i 3), .int (rd X i 2), .int (rd X i 1), .ref 112, v] _ _ _
    refine wl_read (y := mL_law) 4 (by decide +kernel) (by decide +kernel) (by decide +kernel) (by decide +kernel) (by decide +kernel) rfl (hi 4 (by omega)) ?_
    show WQ X 201 (LL i) [.int (rd X i 4), .int (rd X i 3), .int (rd X i 2), .int (rd X i 1), .ref 112, v] _ _ _
    exact hk
  · refine sq_okX rfl [(.if_icmp .eq 735, 0, 0, 0)] 204 _ _ _ _ _ rfl (by decide +kernel) ?_
    exact ⟨fun _ => hk, fun hn => absurd rfl hn⟩
set_option maxHeartbeats 4000000 in
theorem br_cut {X : SX} {c : CS} {m : MS} (h : IV c m) {nc ns : Nat} {i : Int32} (hr : rmC c nc ns) (hi : ∀ q : Int, 1 ≤ q ∧ q ≤ 4 → vp_in (i + kI q) X.2.1) (k : ∀ c' m' nc' ns', IV c' m' → rmC c' nc' ns' → WQ X 939 (LL i) [] (w2 c' m') nc' ns') : WQ X 209 (LL i) [] (w2 c m) nc ns := by
  refine sq_okX rfl [(.aload_n 1, 0, 0, 0)] 209 _ _ _ _ _ rfl (by decide +kernel) ?_
  show WQ X 210 (LL i) [.ref 0] _ _ _
  refine wl_read (y := mL_law) 1 (by decide +kernel) (by decide +kernel) (by decide +kernel) (by decide +kernel) (by decide +kernel) rfl (hi 1 (by omega)) ?_
  show WQ X 215 (LL i) [.int (rd X i 1), .ref 0] _ _ _
  refine br (As := [.int (rd X i 1)]) (st_cut h (rd X i 1)) (pcC := 215) (pcM := 224) (iC := 18) (iM := 22) (by decide +kernel) kL_18 (by decide +kernel) kL_22 rfl ⟨_, rfl, rfl⟩ ⟨_, rfl, rfl⟩ ⟨Nat.le_of_ble_eq_true rfl, Nat.le_of_ble_eq_true rfl⟩ ⟨Nat.le_of_ble_eq_true rfl, Nat.le_of_ble_eq_true rfl⟩ hr (fun v hv => by simp only [List.mem_cons, List.not_mem_nil, or_false] at hv; rw [hv]; exact noR_I _) (fun z => noR_I _) (fun z => Nat.le_of_ble_eq_true rfl) (fun v w nc ns hk => ?_) (fun z w nc ns hk => ?_) k
  · refine sq_okX rfl [(.aload_n 2, 0, 0, 0)] 218 _ _ _ _ _ rfl (by decide +kernel) ?_
    show WQ X 219 (LL i) [.ref 112, v] _ _ _
    refine wl_read (y := mL_law) 1 (by decide +kernel) (by decide +kernel) (by decide +kernel) (by decide +kernel) (by decide +kernel) rfl (hi 1 (by omega)) ?_
    show WQ X 224 (LL i) [.int (rd X i 1), .ref 112, v] _ _ _
    exact hk
  · refine sq_okX rfl [(.if_icmp .eq 712, 0, 0, 0)] 227 _ _ _ _ _ rfl (by decide +kernel) ?_
    exact ⟨fun _ => hk, fun hn => absurd rfl hn⟩
set_option maxHeartbeats 4000000 in
theorem br_told {X : SX} {c : CS} {m : MS} (h : IV c m) {nc ns : Nat} {i : Int32} (hr : rmC c nc ns) (hi : ∀ q : Int, 1 ≤ q ∧ q ≤ 4 → vp_in (i + kI q) X.2.1) (k : ∀ c' m' nc' ns', IV c' m' → rmC c' nc' ns' → WQ X 939 (LL i) [] (w2 c' m') nc' ns') : WQ X 232 (LL i) [] (w2 c m) nc ns := by
  refine sq_okX rfl [(.aload_n 1, 0, 0, 0)] 232 _ _ _ _ _ rfl (by decide +kernel) ?_
  show WQ X 233 (LL i) [.ref 0] _ _ _
  refine wl_read (y := mL_law) 1 (by decide +kernel) (by decide +kernel) (by decide +kernel) (by decide +kernel) (by decide +kernel) rfl (hi 1 (by omega)) ?_
  show WQ X 238 (LL i) [.int (rd X i 1), .ref 0] _ _ _
  refine br (As := [.int (rd X i 1)]) (st_told h (rd X i 1)) (pcC := 238) (pcM := 247) (iC := 23) (iM := 26) (by decide +kernel) kL_23 (by decide +kernel) kL_26 rfl ⟨_, rfl, rfl⟩ ⟨_, rfl, rfl⟩ ⟨Nat.le_of_ble_eq_true rfl, Nat.le_of_ble_eq_true rfl⟩ ⟨Nat.le_of_ble_eq_true rfl, Nat.le_of_ble_eq_true rfl⟩ hr (fun v hv => by simp only [List.mem_cons, List.not_mem_nil, or_false] at hv; rw [hv]; exact noR_I _) (fun z => noR_I _) (fun z => Nat.le_of_ble_eq_true rfl) (fun v w nc ns hk => ?_) (fun z w nc ns hk => ?_) k
  · refine sq_okX rfl [(.aload_n 2, 0, 0, 0)] 241 _ _ _ _ _ rfl (by decide +kernel) ?_
    show WQ X 242 (LL i) [.ref 112, v] _ _ _
    refine wl_read (y := mL_law) 1 (by decide +kernel) (by decide +kernel) (by decide +kernel) (by decide +kernel) (by decide +kernel) rfl (hi 1 (by omega)) ?_
    show WQ X 247 (LL i) [.int (rd X i 1), .ref 112, v] _ _ _
    exact hk
  · refine sq_okX rfl [(.if_icmp .eq 689, 0, 0, 0)] 250 _ _ _ _ _ rfl (by decide +kernel) ?_
    exact ⟨fun _ => hk, fun hn => absurd rfl hn⟩
set_option maxHeartbeats 4000000 in
theorem br_word {X : SX} {c : CS} {m : MS} (h : IV c m) {nc ns : Nat} {i : Int32} (hr : rmC c nc ns) (hi : ∀ q : Int, 1 ≤ q ∧ q ≤ 4 → vp_in (i + kI q) X.2.1) (k : ∀ c' m' nc' ns', IV c' m' → rmC c' nc' ns' → WQ X 939 (LL i) [] (w2 c' m') nc' ns') : WQ X 255 (LL i) [] (w2 c m) nc ns := by
  refine sq_okX rfl [(.aload_n 1, 0, 0, 0)] 255 _ _ _ _ _ rfl (by decide +kernel) ?_
  show WQ X 256 (LL i) [.ref 0] _ _ _
  refine wl_read (y := mL_law) 1 (by decide +kernel) (by decide +kernel) (by decide +kernel) (by decide +kernel) (by decide +kernel) rfl (hi 1 (by omega)) ?_
  show WQ X 261 (LL i) [.int (rd X i 1), .ref 0] _ _ _
  refine wl_read (y := mL_law) 2 (by decide +kernel) (by decide +kernel) (by decide +kernel) (by decide +kernel) (by decide +kernel) rfl (hi 2 (by omega)) ?_
  show WQ X 266 (LL i) [.int (rd X i 2), .int (rd X i 1), .ref 0] _ _ _
  refine br (As := [.int (rd X i 1), .int (rd X i 2)]) (st_word h (rd X i 1) (rd X i 2)) (pcC := 266) (pcM := 280) (iC := 27) (iM := 31) (by decide +kernel) kL_27 (by decide +kernel) kL_31 rfl ⟨_, rfl, rfl⟩ ⟨_, rfl, rfl⟩ ⟨Nat.le_of_ble_eq_true rfl, Nat.le_of_ble_eq_true rfl⟩ ⟨Nat.le_of_ble_eq_true rfl, Nat.le_of_ble_eq_true rfl⟩ hr (fun v hv => by simp only [List.mem_cons, List.not_mem_nil, or_false] at hv; rcases hv with rfl | rfl; exact noR_I _; exact noR_I _) (fun z => noR_I _) (fun z => Nat.le_of_ble_eq_true rfl) (fun v w nc ns hk => ?_) (fun z w nc ns hk => ?_) k
  · refine sq_okX rfl [(.aload_n 2, 0, 0, 0)] 269 _ _ _ _ _ rfl (by decide +kernel) ?_
    show WQ X 270 (LL i) [.ref 112, v] _ _ _
    refine wl_read (y := mL_law) 1 (by decide +kernel) (by decide +kernel) (by decide +kernel) (by decide +kernel) (by decide +kernel) rfl (hi 1 (by omega)) ?_
    show WQ X 275 (LL i) [.int (rd X i 1), .ref 112, v] _ _ _
    refine wl_read (y := mL_law) 2 (by decide +kernel) (by decide +kernel) (by decide +kernel) (by decide +kernel) (by decide +kernel) rfl (hi 2 (by omega)) ?_
    show WQ X 280 (LL i) [.int (rd X i 2), .int (rd X i 1), .ref 112, v] _ _ _
    exact hk
  · refine sq_okX rfl [(.if_icmp .eq 656, 0, 0, 0)] 283 _ _ _ _ _ rfl (by decide +kernel) ?_
    exact ⟨fun _ => hk, fun hn => absurd rfl hn⟩
set_option maxHeartbeats 4000000 in
theorem br_rule {X : SX} {c : CS} {m : MS} (h : IV c m) {nc ns : Nat} {i : Int32} (hr : rmC c nc ns) (hi : ∀ q : Int, 1 ≤ q ∧ q ≤ 4 → vp_in (i + kI q) X.2.1) (k : ∀ c' m' nc' ns', IV c' m' → rmC c' nc' ns' → WQ X 939 (LL i) [] (w2 c' m') nc' ns') : WQ X 288 (LL i) [] (w2 c m) nc ns := by
  refine sq_okX rfl [(.aload_n 1, 0, 0, 0)] 288 _ _ _ _ _ rfl (by decide +kernel) ?_
  show WQ X 289 (LL i) [.ref 0] _ _ _
  refine wl_read (y := mL_law) 1 (by decide +kernel) (by decide +kernel) (by decide +kernel) (by decide +kernel) (by decide +kernel) rfl (hi 1 (by omega)) ?_
  show WQ X 294 (LL i) [.int (rd X i 1), .ref 0] _ _ _
  by_cases hz : rd X i 1 = kI 0
  · refine sq_okX rfl [(.ifCond .eq 7, 0, 0, 0)] 294 _ _ _ _ _ rfl (by decide +kernel) ?_
    refine ⟨fun _ => ?_, fun hn => absurd hz hn⟩
    show WQ X 301 (LL i) [.ref 0] _ _ _
    refine sq_okX rfl [(.iconst 0, 0, 0, 0)] 301 _ _ _ _ _ rfl (by decide +kernel) ?_
    show WQ X 302 (LL i) [.int (kI 0), .ref 0] _ _ _
    refine br (As := [vZ false]) (st_rule h false) (pcC := 302) (pcM := 319) (iC := 32) (iM := 36) (by decide +kernel) kL_32 (by decide +kernel) kL_36 rfl ⟨_, rfl, rfl⟩ ⟨_, rfl, rfl⟩ ⟨Nat.le_of_ble_eq_true rfl, Nat.le_of_ble_eq_true rfl⟩ ⟨Nat.le_of_ble_eq_true rfl, Nat.le_of_ble_eq_true rfl⟩ hr (fun v hv => by simp only [List.mem_cons, List.not_mem_nil, or_false] at hv; rw [hv]; exact noR_I _) (fun z => noR_I _) (fun z => Nat.le_of_ble_eq_true rfl) (fun v w nc ns hk => ?_) (fun z w nc ns hk => ?_) k
    · refine sq_okX rfl [(.aload_n 2, 0, 0, 0)] 305 _ _ _ _ _ rfl (by decide +kernel) ?_
      show WQ X 306 (LL i) [.ref 112, v] _ _ _
      refine wl_read (y := mL_law) 1 (by decide +kernel) (by decide +kernel) (by decide +kernel) (by decide +kernel) (by decide +kernel) rfl (hi 1 (by omega)) ?_
      show WQ X 311 (LL i) [.int (rd X i 1), .ref 112, v] _ _ _
      refine sq_okX rfl [(.ifCond .eq 7, 0, 0, 0)] 311 _ _ _ _ _ rfl (by decide +kernel) ?_
      refine ⟨fun _ => ?_, fun hn => absurd hz hn⟩
      show WQ X 318 (LL i) [.ref 112, v] _ _ _
      refine sq_okX rfl [(.iconst 0, 0, 0, 0)] 318 _ _ _ _ _ rfl (by decide +kernel) ?_
      show WQ X 319 (LL i) [.int (kI 0), .ref 112, v] _ _ _
      exact hk
    · refine sq_okX rfl [(.if_icmp .eq 617, 0, 0, 0)] 322 _ _ _ _ _ rfl (by decide +kernel) ?_
      exact ⟨fun _ => hk, fun hn => absurd rfl hn⟩
  · refine sq_okX rfl [(.ifCond .eq 7, 0, 0, 0)] 294 _ _ _ _ _ rfl (by decide +kernel) ?_
    refine ⟨fun hn => absurd hn hz, fun _ => ?_⟩
    show WQ X 297 (LL i) [.ref 0] _ _ _
    refine sq_okX rfl [(.iconst 1, 0, 0, 0), (.goto 4, 0, 0, 0)] 297 _ _ _ _ _ rfl (by decide +kernel) ?_
    show WQ X 302 (LL i) [.int (kI 1), .ref 0] _ _ _
    refine br (As := [vZ true]) (st_rule h true) (pcC := 302) (pcM := 319) (iC := 32) (iM := 36) (by decide +kernel) kL_32 (by decide +kernel) kL_36 rfl ⟨_, rfl, rfl⟩ ⟨_, rfl, rfl⟩ ⟨Nat.le_of_ble_eq_true rfl, Nat.le_of_ble_eq_true rfl⟩ ⟨Nat.le_of_ble_eq_true rfl, Nat.le_of_ble_eq_true rfl⟩ hr (fun v hv => by simp only [List.mem_cons, List.not_mem_nil, or_false] at hv; rw [hv]; exact noR_I _) (fun z => noR_I _) (fun z => Nat.le_of_ble_eq_true rfl) (fun v w nc ns hk => ?_) (fun z w nc ns hk => ?_) k
    · refine sq_okX rfl [(.aload_n 2, 0, 0, 0)] 305 _ _ _ _ _ rfl (by decide +kernel) ?_
      show WQ X 306 (LL i) [.ref 112, v] _ _ _
      refine wl_read (y := mL_law) 1 (by decide +kernel) (by decide +kernel) (by decide +kernel) (by decide +kernel) (by decide +kernel) rfl (hi 1 (by omega)) ?_
      show WQ X 311 (LL i) [.int (rd X i 1), .ref 112, v] _ _ _
      refine sq_okX rfl [(.ifCond .eq 7, 0, 0, 0)] 311 _ _ _ _ _ rfl (by decide +kernel) ?_
      refine ⟨fun hn => absurd hn hz, fun _ => ?_⟩
      show WQ X 314 (LL i) [.ref 112, v] _ _ _
      refine sq_okX rfl [(.iconst 1, 0, 0, 0), (.goto 4, 0, 0, 0)] 314 _ _ _ _ _ rfl (by decide +kernel) ?_
      show WQ X 319 (LL i) [.int (kI 1), .ref 112, v] _ _ _
      exact hk
    · refine sq_okX rfl [(.if_icmp .eq 617, 0, 0, 0)] 322 _ _ _ _ _ rfl (by decide +kernel) ?_
      exact ⟨fun _ => hk, fun hn => absurd rfl hn⟩
set_option maxHeartbeats 4000000 in
theorem br_fresh {X : SX} {c : CS} {m : MS} (h : IV c m) {nc ns : Nat} {i : Int32} (hr : rmC c nc ns) (hi : ∀ q : Int, 1 ≤ q ∧ q ≤ 4 → vp_in (i + kI q) X.2.1) (k : ∀ c' m' nc' ns', IV c' m' → rmC c' nc' ns' → WQ X 939 (LL i) [] (w2 c' m') nc' ns') : WQ X 327 (LL i) [] (w2 c m) nc ns := by
  refine sq_okX rfl [(.aload_n 1, 0, 0, 0)] 327 _ _ _ _ _ rfl (by decide +kernel) ?_
  show WQ X 328 (LL i) [.ref 0] _ _ _
  refine br (As := []) (st_fresh h) (pcC := 328) (pcM := 332) (iC := 37) (iM := 41) (by decide +kernel) kL_37 (by decide +kernel) kL_41 rfl ⟨_, rfl, rfl⟩ ⟨_, rfl, rfl⟩ ⟨Nat.le_of_ble_eq_true rfl, Nat.le_of_ble_eq_true rfl⟩ ⟨Nat.le_of_ble_eq_true rfl, Nat.le_of_ble_eq_true rfl⟩ hr (fun v hv => by cases hv) (fun z => noR_I _) (fun z => Nat.le_of_ble_eq_true rfl) (fun v w nc ns hk => ?_) (fun z w nc ns hk => ?_) k
  · refine sq_okX rfl [(.aload_n 2, 0, 0, 0)] 331 _ _ _ _ _ rfl (by decide +kernel) ?_
    show WQ X 332 (LL i) [.ref 112, v] _ _ _
    exact hk
  · refine sq_okX rfl [(.if_icmp .eq 604, 0, 0, 0)] 335 _ _ _ _ _ rfl (by decide +kernel) ?_
    exact ⟨fun _ => hk, fun hn => absurd rfl hn⟩
set_option maxHeartbeats 4000000 in
theorem br_reload {X : SX} {c : CS} {m : MS} (h : IV c m) {nc ns : Nat} {i : Int32} (hr : rmC c nc ns) (hi : ∀ q : Int, 1 ≤ q ∧ q ≤ 4 → vp_in (i + kI q) X.2.1) (k : ∀ c' m' nc' ns', IV c' m' → rmC c' nc' ns' → WQ X 939 (LL i) [] (w2 c' m') nc' ns') : WQ X 340 (LL i) [] (w2 c m) nc ns := by
  refine sq_okX rfl [(.aload_n 1, 0, 0, 0)] 340 _ _ _ _ _ rfl (by decide +kernel) ?_
  show WQ X 341 (LL i) [.ref 0] _ _ _
  refine br (As := []) (st_reload h) (pcC := 341) (pcM := 345) (iC := 42) (iM := 45) (by decide +kernel) kL_42 (by decide +kernel) kL_45 rfl ⟨_, rfl, rfl⟩ ⟨_, rfl, rfl⟩ ⟨Nat.le_of_ble_eq_true rfl, Nat.le_of_ble_eq_true rfl⟩ ⟨Nat.le_of_ble_eq_true rfl, Nat.le_of_ble_eq_true rfl⟩ hr (fun v hv => by cases hv) (fun z => noR_I _) (fun z => Nat.le_of_ble_eq_true rfl) (fun v w nc ns hk => ?_) (fun z w nc ns hk => ?_) k
  · refine sq_okX rfl [(.aload_n 2, 0, 0, 0)] 344 _ _ _ _ _ rfl (by decide +kernel) ?_
    show WQ X 345 (LL i) [.ref 112, v] _ _ _
    exact hk
  · refine sq_okX rfl [(.if_icmp .eq 591, 0, 0, 0)] 348 _ _ _ _ _ rfl (by decide +kernel) ?_
    exact ⟨fun _ => hk, fun hn => absurd rfl hn⟩
set_option maxHeartbeats 4000000 in
theorem br_left {X : SX} {c : CS} {m : MS} (h : IV c m) {nc ns : Nat} {i : Int32} (hr : rmC c nc ns) (hi : ∀ q : Int, 1 ≤ q ∧ q ≤ 4 → vp_in (i + kI q) X.2.1) (k : ∀ c' m' nc' ns', IV c' m' → rmC c' nc' ns' → WQ X 939 (LL i) [] (w2 c' m') nc' ns') : WQ X 353 (LL i) [] (w2 c m) nc ns := by
  refine sq_okX rfl [(.aload_n 1, 0, 0, 0)] 353 _ _ _ _ _ rfl (by decide +kernel) ?_
  show WQ X 354 (LL i) [.ref 0] _ _ _
  refine wl_read (y := mL_law) 1 (by decide +kernel) (by decide +kernel) (by decide +kernel) (by decide +kernel) (by decide +kernel) rfl (hi 1 (by omega)) ?_
  show WQ X 359 (LL i) [.int (rd X i 1), .ref 0] _ _ _
  refine wl_read (y := mL_law) 2 (by decide +kernel) (by decide +kernel) (by decide +kernel) (by decide +kernel) (by decide +kernel) rfl (hi 2 (by omega)) ?_
  show WQ X 364 (LL i) [.int (rd X i 2), .int (rd X i 1), .ref 0] _ _ _
  refine br (As := [.int (rd X i 1), .int (rd X i 2)]) (st_left h (rd X i 1) (rd X i 2)) (pcC := 364) (pcM := 378) (iC := 46) (iM := 49) (by decide +kernel) kL_46 (by decide +kernel) kL_49 rfl ⟨_, rfl, rfl⟩ ⟨_, rfl, rfl⟩ ⟨Nat.le_of_ble_eq_true rfl, Nat.le_of_ble_eq_true rfl⟩ ⟨Nat.le_of_ble_eq_true rfl, Nat.le_of_ble_eq_true rfl⟩ hr (fun v hv => by simp only [List.mem_cons, List.not_mem_nil, or_false] at hv; rcases hv with rfl | rfl; exact noR_I _; exact noR_I _) (fun z => noR_I _) (fun z => Nat.le_of_ble_eq_true rfl) (fun v w nc ns hk => ?_) (fun z w nc ns hk => ?_) k
  · refine sq_okX rfl [(.aload_n 2, 0, 0, 0)] 367 _ _ _ _ _ rfl (by decide +kernel) ?_
    show WQ X 368 (LL i) [.ref 112, v] _ _ _
    refine wl_read (y := mL_law) 1 (by decide +kernel) (by decide +kernel) (by decide +kernel) (by decide +kernel) (by decide +kernel) rfl (hi 1 (by omega)) ?_
    show WQ X 373 (LL i) [.int (rd X i 1), .ref 112, v] _ _ _
    refine wl_read (y := mL_law) 2 (by decide +kernel) (by decide +kernel) (by decide +kernel) (by decide +kernel) (by decide +kernel) rfl (hi 2 (by omega)) ?_
    show WQ X 378 (LL i) [.int (rd X i 2), .int (rd X i 1), .ref 112, v] _ _ _
    exact hk
  · refine sq_okX rfl [(.if_icmp .eq 558, 0, 0, 0)] 381 _ _ _ _ _ rfl (by decide +kernel) ?_
    exact ⟨fun _ => hk, fun hn => absurd rfl hn⟩
set_option maxHeartbeats 4000000 in
theorem br_alternative {X : SX} {c : CS} {m : MS} (h : IV c m) {nc ns : Nat} {i : Int32} (hr : rmC c nc ns) (hi : ∀ q : Int, 1 ≤ q ∧ q ≤ 4 → vp_in (i + kI q) X.2.1) (k : ∀ c' m' nc' ns', IV c' m' → rmC c' nc' ns' → WQ X 939 (LL i) [] (w2 c' m') nc' ns') : WQ X 386 (LL i) [] (w2 c m) nc ns := by
  refine sq_okX rfl [(.aload_n 1, 0, 0, 0)] 386 _ _ _ _ _ rfl (by decide +kernel) ?_
  show WQ X 387 (LL i) [.ref 0] _ _ _
  refine wl_read (y := mL_law) 1 (by decide +kernel) (by decide +kernel) (by decide +kernel) (by decide +kernel) (by decide +kernel) rfl (hi 1 (by omega)) ?_
  show WQ X 392 (LL i) [.int (rd X i 1), .ref 0] _ _ _
  refine wl_read (y := mL_law) 2 (by decide +kernel) (by decide +kernel) (by decide +kernel) (by decide +kernel) (by decide +kernel) rfl (hi 2 (by omega)) ?_
  show WQ X 397 (LL i) [.int (rd X i 2), .int (rd X i 1), .ref 0] _ _ _
  refine wl_read (y := mL_law) 3 (by decide +kernel) (by decide +kernel) (by decide +kernel) (by decide +kernel) (by decide +kernel) rfl (hi 3 (by omega)) ?_
  show WQ X 402 (LL i) [.int (rd X i 3), .int (rd X i 2), .int (rd X i 1), .ref 0] _ _ _
  refine br (As := [.int (rd X i 1), .int (rd X i 2), .int (rd X i 3)]) (st_alternative h (rd X i 1) (rd X i 2) (rd X i 3)) (pcC := 402) (pcM := 421) (iC := 50) (iM := 54) (by decide +kernel) kL_50 (by decide +kernel) kL_54 rfl ⟨_, rfl, rfl⟩ ⟨_, rfl, rfl⟩ ⟨Nat.le_of_ble_eq_true rfl, Nat.le_of_ble_eq_true rfl⟩ ⟨Nat.le_of_ble_eq_true rfl, Nat.le_of_ble_eq_true rfl⟩ hr (fun v hv => by simp only [List.mem_cons, List.not_mem_nil, or_false] at hv; rcases hv with rfl | rfl | rfl; exact noR_I _; exact noR_I _; exact noR_I _) (fun z => noR_I _) (fun z => Nat.le_of_ble_eq_true rfl) (fun v w nc ns hk => ?_) (fun z w nc ns hk => ?_) k
  · refine sq_okX rfl [(.aload_n 2, 0, 0, 0)] 405 _ _ _ _ _ rfl (by decide +kernel) ?_
    show WQ X 406 (LL i) [.ref 112, v] _ _ _
    refine wl_read (y := mL_law) 1 (by decide +kernel) (by decide +kernel) (by decide +kernel) (by decide +kernel) (by decide +kernel) rfl (hi 1 (by omega)) ?_
    show WQ X 411 (LL i) [.int (rd X i 1), .ref 112, v] _ _ _
    refine wl_read (y := mL_law) 2 (by decide +kernel) (by decide +kernel) (by decide +kernel) (by decide +kernel) (by decide +kernel) rfl (hi 2 (by omega)) ?_
    show WQ X 416 (LL i) [.int (rd X i 2), .int (rd X i 1), .ref 112, v] _ _ _
    refine wl_read (y := mL_law) 3 (by decide +kernel) (by decide +kernel) (by decide +kernel) (by decide +kernel) (by decide +kernel) rfl (hi 3 (by omega)) ?_
    show WQ X 421 (LL i) [.int (rd X i 3), .int (rd X i 2), .int (rd X i 1), .ref 112, v] _ _ _
    exact hk
  · refine sq_okX rfl [(.if_icmp .eq 515, 0, 0, 0)] 424 _ _ _ _ _ rfl (by decide +kernel) ?_
    exact ⟨fun _ => hk, fun hn => absurd rfl hn⟩
set_option maxHeartbeats 4000000 in
theorem br_input {X : SX} {c : CS} {m : MS} (h : IV c m) {nc ns : Nat} {i : Int32} (hr : rmC c nc ns) (hi : ∀ q : Int, 1 ≤ q ∧ q ≤ 4 → vp_in (i + kI q) X.2.1) (k : ∀ c' m' nc' ns', IV c' m' → rmC c' nc' ns' → WQ X 939 (LL i) [] (w2 c' m') nc' ns') : WQ X 429 (LL i) [] (w2 c m) nc ns := by
  refine sq_okX rfl [(.aload_n 1, 0, 0, 0)] 429 _ _ _ _ _ rfl (by decide +kernel) ?_
  show WQ X 430 (LL i) [.ref 0] _ _ _
  refine br (As := []) (st_input h) (pcC := 430) (pcM := 434) (iC := 55) (iM := 58) (by decide +kernel) kL_55 (by decide +kernel) kL_58 rfl ⟨_, rfl, rfl⟩ ⟨_, rfl, rfl⟩ ⟨Nat.le_of_ble_eq_true rfl, Nat.le_of_ble_eq_true rfl⟩ ⟨Nat.le_of_ble_eq_true rfl, Nat.le_of_ble_eq_true rfl⟩ hr (fun v hv => by cases hv) (fun z => noR_I _) (fun z => Nat.le_of_ble_eq_true rfl) (fun v w nc ns hk => ?_) (fun z w nc ns hk => ?_) k
  · refine sq_okX rfl [(.aload_n 2, 0, 0, 0)] 433 _ _ _ _ _ rfl (by decide +kernel) ?_
    show WQ X 434 (LL i) [.ref 112, v] _ _ _
    exact hk
  · refine sq_okX rfl [(.if_icmp .eq 502, 0, 0, 0)] 437 _ _ _ _ _ rfl (by decide +kernel) ?_
    exact ⟨fun _ => hk, fun hn => absurd rfl hn⟩
set_option maxHeartbeats 4000000 in
theorem br_longest {X : SX} {c : CS} {m : MS} (h : IV c m) {nc ns : Nat} {i : Int32} (hr : rmC c nc ns) (hi : ∀ q : Int, 1 ≤ q ∧ q ≤ 4 → vp_in (i + kI q) X.2.1) (k : ∀ c' m' nc' ns', IV c' m' → rmC c' nc' ns' → WQ X 939 (LL i) [] (w2 c' m') nc' ns') : WQ X 442 (LL i) [] (w2 c m) nc ns := by
  refine sq_okX rfl [(.aload_n 1, 0, 0, 0)] 442 _ _ _ _ _ rfl (by decide +kernel) ?_
  show WQ X 443 (LL i) [.ref 0] _ _ _
  refine wl_read (y := mL_law) 1 (by decide +kernel) (by decide +kernel) (by decide +kernel) (by decide +kernel) (by decide +kernel) rfl (hi 1 (by omega)) ?_
  show WQ X 448 (LL i) [.int (rd X i 1), .ref 0] _ _ _
  refine br (As := [.int (rd X i 1)]) (st_longest h (rd X i 1)) (pcC := 448) (pcM := 457) (iC := 59) (iM := 62) (by decide +kernel) kL_59 (by decide +kernel) kL_62 rfl ⟨_, rfl, rfl⟩ ⟨_, rfl, rfl⟩ ⟨Nat.le_of_ble_eq_true rfl, Nat.le_of_ble_eq_true rfl⟩ ⟨Nat.le_of_ble_eq_true rfl, Nat.le_of_ble_eq_true rfl⟩ hr (fun v hv => by simp only [List.mem_cons, List.not_mem_nil, or_false] at hv; rw [hv]; exact noR_I _) (fun z => noR_I _) (fun z => Nat.le_of_ble_eq_true rfl) (fun v w nc ns hk => ?_) (fun z w nc ns hk => ?_) k
  · refine sq_okX rfl [(.aload_n 2, 0, 0, 0)] 451 _ _ _ _ _ rfl (by decide +kernel) ?_
    show WQ X 452 (LL i) [.ref 112, v] _ _ _
    refine wl_read (y := mL_law) 1 (by decide +kernel) (by decide +kernel) (by decide +kernel) (by decide +kernel) (by decide +kernel) rfl (hi 1 (by omega)) ?_
    show WQ X 457 (LL i) [.int (rd X i 1), .ref 112, v] _ _ _
    exact hk
  · refine sq_okX rfl [(.if_icmp .eq 479, 0, 0, 0)] 460 _ _ _ _ _ rfl (by decide +kernel) ?_
    exact ⟨fun _ => hk, fun hn => absurd rfl hn⟩
set_option maxHeartbeats 4000000 in
theorem br_graph {X : SX} {c : CS} {m : MS} (h : IV c m) {nc ns : Nat} {i : Int32} (hr : rmC c nc ns) (hi : ∀ q : Int, 1 ≤ q ∧ q ≤ 4 → vp_in (i + kI q) X.2.1) (k : ∀ c' m' nc' ns', IV c' m' → rmC c' nc' ns' → WQ X 939 (LL i) [] (w2 c' m') nc' ns') : WQ X 465 (LL i) [] (w2 c m) nc ns := by
  refine sq_okX rfl [(.aload_n 1, 0, 0, 0)] 465 _ _ _ _ _ rfl (by decide +kernel) ?_
  show WQ X 466 (LL i) [.ref 0] _ _ _
  refine br (As := []) (st_graph h) (pcC := 466) (pcM := 470) (iC := 63) (iM := 66) (by decide +kernel) kL_63 (by decide +kernel) kL_66 rfl ⟨_, rfl, rfl⟩ ⟨_, rfl, rfl⟩ ⟨Nat.le_of_ble_eq_true rfl, Nat.le_of_ble_eq_true rfl⟩ ⟨Nat.le_of_ble_eq_true rfl, Nat.le_of_ble_eq_true rfl⟩ hr (fun v hv => by cases hv) (fun z => noR_I _) (fun z => Nat.le_of_ble_eq_true rfl) (fun v w nc ns hk => ?_) (fun z w nc ns hk => ?_) k
  · refine sq_okX rfl [(.aload_n 2, 0, 0, 0)] 469 _ _ _ _ _ rfl (by decide +kernel) ?_
    show WQ X 470 (LL i) [.ref 112, v] _ _ _
    exact hk
  · refine sq_okX rfl [(.if_icmp .eq 466, 0, 0, 0)] 473 _ _ _ _ _ rfl (by decide +kernel) ?_
    exact ⟨fun _ => hk, fun hn => absurd rfl hn⟩
set_option maxHeartbeats 4000000 in
theorem br_size {X : SX} {c : CS} {m : MS} (h : IV c m) {nc ns : Nat} {i : Int32} (hr : rmC c nc ns) (hi : ∀ q : Int, 1 ≤ q ∧ q ≤ 4 → vp_in (i + kI q) X.2.1) (k : ∀ c' m' nc' ns', IV c' m' → rmC c' nc' ns' → WQ X 939 (LL i) [] (w2 c' m') nc' ns') : WQ X 478 (LL i) [] (w2 c m) nc ns := by
  refine sq_okX rfl [(.aload_n 1, 0, 0, 0)] 478 _ _ _ _ _ rfl (by decide +kernel) ?_
  show WQ X 479 (LL i) [.ref 0] _ _ _
  refine wl_read (y := mL_law) 1 (by decide +kernel) (by decide +kernel) (by decide +kernel) (by decide +kernel) (by decide +kernel) rfl (hi 1 (by omega)) ?_
  show WQ X 484 (LL i) [.int (rd X i 1), .ref 0] _ _ _
  refine br (As := [.int (rd X i 1)]) (st_size h (rd X i 1)) (pcC := 484) (pcM := 493) (iC := 67) (iM := 70) (by decide +kernel) kL_67 (by decide +kernel) kL_70 rfl ⟨_, rfl, rfl⟩ ⟨_, rfl, rfl⟩ ⟨Nat.le_of_ble_eq_true rfl, Nat.le_of_ble_eq_true rfl⟩ ⟨Nat.le_of_ble_eq_true rfl, Nat.le_of_ble_eq_true rfl⟩ hr (fun v hv => by simp only [List.mem_cons, List.not_mem_nil, or_false] at hv; rw [hv]; exact noR_I _) (fun z => noR_I _) (fun z => Nat.le_of_ble_eq_true rfl) (fun v w nc ns hk => ?_) (fun z w nc ns hk => ?_) k
  · refine sq_okX rfl [(.aload_n 2, 0, 0, 0)] 487 _ _ _ _ _ rfl (by decide +kernel) ?_
    show WQ X 488 (LL i) [.ref 112, v] _ _ _
    refine wl_read (y := mL_law) 1 (by decide +kernel) (by decide +kernel) (by decide +kernel) (by decide +kernel) (by decide +kernel) rfl (hi 1 (by omega)) ?_
    show WQ X 493 (LL i) [.int (rd X i 1), .ref 112, v] _ _ _
    exact hk
  · refine sq_okX rfl [(.if_icmp .eq 443, 0, 0, 0)] 496 _ _ _ _ _ rfl (by decide +kernel) ?_
    exact ⟨fun _ => hk, fun hn => absurd rfl hn⟩
set_option maxHeartbeats 4000000 in
theorem br_match {X : SX} {c : CS} {m : MS} (h : IV c m) {nc ns : Nat} {i : Int32} (hr : rmC c nc ns) (hi : ∀ q : Int, 1 ≤ q ∧ q ≤ 4 → vp_in (i + kI q) X.2.1) (k : ∀ c' m' nc' ns', IV c' m' → rmC c' nc' ns' → WQ X 939 (LL i) [] (w2 c' m') nc' ns') : WQ X 501 (LL i) [] (w2 c m) nc ns := by
  refine sq_okX rfl [(.aload_n 1, 0, 0, 0)] 501 _ _ _ _ _ rfl (by decide +kernel) ?_
  show WQ X 502 (LL i) [.ref 0] _ _ _
  refine wl_read (y := mL_law) 1 (by decide +kernel) (by decide +kernel) (by decide +kernel) (by decide +kernel) (by decide +kernel) rfl (hi 1 (by omega)) ?_
  show WQ X 507 (LL i) [.int (rd X i 1), .ref 0] _ _ _
  refine wl_read (y := mL_law) 2 (by decide +kernel) (by decide +kernel) (by decide +kernel) (by decide +kernel) (by decide +kernel) rfl (hi 2 (by omega)) ?_
  show WQ X 512 (LL i) [.int (rd X i 2), .int (rd X i 1), .ref 0] _ _ _
  refine br (As := [.int (rd X i 1), .int (rd X i 2)]) (st_match h (rd X i 1) (rd X i 2)) (pcC := 512) (pcM := 526) (iC := 71) (iM := 74) (by decide +kernel) kL_71 (by decide +kernel) kL_74 rfl ⟨_, rfl, rfl⟩ ⟨_, rfl, rfl⟩ ⟨Nat.le_of_ble_eq_true rfl, Nat.le_of_ble_eq_true rfl⟩ ⟨Nat.le_of_ble_eq_true rfl, Nat.le_of_ble_eq_true rfl⟩ hr (fun v hv => by simp only [List.mem_cons, List.not_mem_nil, or_false] at hv; rcases hv with rfl | rfl; exact noR_I _; exact noR_I _) (fun z => noR_I _) (fun z => Nat.le_of_ble_eq_true rfl) (fun v w nc ns hk => ?_) (fun z w nc ns hk => ?_) k
  · refine sq_okX rfl [(.aload_n 2, 0, 0, 0)] 515 _ _ _ _ _ rfl (by decide +kernel) ?_
    show WQ X 516 (LL i) [.ref 112, v] _ _ _
    refine wl_read (y := mL_law) 1 (by decide +kernel) (by decide +kernel) (by decide +kernel) (by decide +kernel) (by decide +kernel) rfl (hi 1 (by omega)) ?_
    show WQ X 521 (LL i) [.int (rd X i 1), .ref 112, v] _ _ _
    refine wl_read (y := mL_law) 2 (by decide +kernel) (by decide +kernel) (by decide +kernel) (by decide +kernel) (by decide +kernel) rfl (hi 2 (by omega)) ?_
    show WQ X 526 (LL i) [.int (rd X i 2), .int (rd X i 1), .ref 112, v] _ _ _
    exact hk
  · refine sq_okX rfl [(.if_icmp .eq 410, 0, 0, 0)] 529 _ _ _ _ _ rfl (by decide +kernel) ?_
    exact ⟨fun _ => hk, fun hn => absurd rfl hn⟩
set_option maxHeartbeats 4000000 in
theorem br_edge {X : SX} {c : CS} {m : MS} (h : IV c m) {nc ns : Nat} {i : Int32} (hr : rmC c nc ns) (hi : ∀ q : Int, 1 ≤ q ∧ q ≤ 4 → vp_in (i + kI q) X.2.1) (k : ∀ c' m' nc' ns', IV c' m' → rmC c' nc' ns' → WQ X 939 (LL i) [] (w2 c' m') nc' ns') : WQ X 534 (LL i) [] (w2 c m) nc ns := by
  refine sq_okX rfl [(.aload_n 1, 0, 0, 0)] 534 _ _ _ _ _ rfl (by decide +kernel) ?_
  show WQ X 535 (LL i) [.ref 0] _ _ _
  refine wl_read (y := mL_law) 1 (by decide +kernel) (by decide +kernel) (by decide +kernel) (by decide +kernel) (by decide +kernel) rfl (hi 1 (by omega)) ?_
  show WQ X 540 (LL i) [.int (rd X i 1), .ref 0] _ _ _
  refine wl_read (y := mL_law) 2 (by decide +kernel) (by decide +kernel) (by decide +kernel) (by decide +kernel) (by decide +kernel) rfl (hi 2 (by omega)) ?_
  show WQ X 545 (LL i) [.int (rd X i 2), .int (rd X i 1), .ref 0] _ _ _
  refine br (As := [.int (rd X i 1), .int (rd X i 2)]) (st_edge h (rd X i 1) (rd X i 2)) (pcC := 545) (pcM := 559) (iC := 75) (iM := 78) (by decide +kernel) kL_75 (by decide +kernel) kL_78 rfl ⟨_, rfl, rfl⟩ ⟨_, rfl, rfl⟩ ⟨Nat.le_of_ble_eq_true rfl, Nat.le_of_ble_eq_true rfl⟩ ⟨Nat.le_of_ble_eq_true rfl, Nat.le_of_ble_eq_true rfl⟩ hr (fun v hv => by simp only [List.mem_cons, List.not_mem_nil, or_false] at hv; rcases hv with rfl | rfl; exact noR_I _; exact noR_I _) (fun z => noR_I _) (fun z => Nat.le_of_ble_eq_true rfl) (fun v w nc ns hk => ?_) (fun z w nc ns hk => ?_) k
  · refine sq_okX rfl [(.aload_n 2, 0, 0, 0)] 548 _ _ _ _ _ rfl (by decide +kernel) ?_
    show WQ X 549 (LL i) [.ref 112, v] _ _ _
    refine wl_read (y := mL_law) 1 (by decide +kernel) (by decide +kernel) (by decide +kernel) (by decide +kernel) (by decide +kernel) rfl (hi 1 (by omega)) ?_
    show WQ X 554 (LL i) [.int (rd X i 1), .ref 112, v] _ _ _
    refine wl_read (y := mL_law) 2 (by decide +kernel) (by decide +kernel) (by decide +kernel) (by decide +kernel) (by decide +kernel) rfl (hi 2 (by omega)) ?_
    show WQ X 559 (LL i) [.int (rd X i 2), .int (rd X i 1), .ref 112, v] _ _ _
    exact hk
  · refine sq_okX rfl [(.if_icmp .eq 377, 0, 0, 0)] 562 _ _ _ _ _ rfl (by decide +kernel) ?_
    exact ⟨fun _ => hk, fun hn => absurd rfl hn⟩
set_option maxHeartbeats 4000000 in
theorem br_phrases {X : SX} {c : CS} {m : MS} (h : IV c m) {nc ns : Nat} {i : Int32} (hr : rmC c nc ns) (hi : ∀ q : Int, 1 ≤ q ∧ q ≤ 4 → vp_in (i + kI q) X.2.1) (k : ∀ c' m' nc' ns', IV c' m' → rmC c' nc' ns' → WQ X 939 (LL i) [] (w2 c' m') nc' ns') : WQ X 567 (LL i) [] (w2 c m) nc ns := by
  refine sq_okX rfl [(.aload_n 1, 0, 0, 0)] 567 _ _ _ _ _ rfl (by decide +kernel) ?_
  show WQ X 568 (LL i) [.ref 0] _ _ _
  refine br (As := []) (st_phrases h) (pcC := 568) (pcM := 572) (iC := 79) (iM := 83) (by decide +kernel) kL_79 (by decide +kernel) kL_83 rfl ⟨_, rfl, rfl⟩ ⟨_, rfl, rfl⟩ ⟨Nat.le_of_ble_eq_true rfl, Nat.le_of_ble_eq_true rfl⟩ ⟨Nat.le_of_ble_eq_true rfl, Nat.le_of_ble_eq_true rfl⟩ hr (fun v hv => by cases hv) (fun z => noR_J _) (fun z => Nat.le_of_ble_eq_true rfl) (fun v w nc ns hk => ?_) (fun z w nc ns hk => ?_) k
  · refine sq_okX rfl [(.aload_n 2, 0, 0, 0)] 571 _ _ _ _ _ rfl (by decide +kernel) ?_
    show WQ X 572 (LL i) [.ref 112, v] _ _ _
    exact hk
  · refine sq_okX rfl [(.lcmp, 0, 0, 0), (.ifCond .eq 363, 0, 0, 0)] 575 _ _ _ _ _ rfl (by decide +kernel) ?_
    exact ⟨fun _ => hk, fun hn => absurd (lg_cmp_self _) hn⟩
set_option maxHeartbeats 4000000 in
theorem br_phrase {X : SX} {c : CS} {m : MS} (h : IV c m) {nc ns : Nat} {i : Int32} (hr : rmC c nc ns) (hi : ∀ q : Int, 1 ≤ q ∧ q ≤ 4 → vp_in (i + kI q) X.2.1) (k : ∀ c' m' nc' ns', IV c' m' → rmC c' nc' ns' → WQ X 939 (LL i) [] (w2 c' m') nc' ns') : WQ X 581 (LL i) [] (w2 c m) nc ns := by
  refine sq_okX rfl [(.aload_n 1, 0, 0, 0)] 581 _ _ _ _ _ rfl (by decide +kernel) ?_
  show WQ X 582 (LL i) [.ref 0] _ _ _
  refine wl_read (y := mL_law) 1 (by decide +kernel) (by decide +kernel) (by decide +kernel) (by decide +kernel) (by decide +kernel) rfl (hi 1 (by omega)) ?_
  show WQ X 587 (LL i) [.int (rd X i 1), .ref 0] _ _ _
  refine sq_okX rfl [(.i2l, 0, 0, 0), (.bipush 32, 0, 0, 0), (.lshl, 0, 0, 0)] 587 _ _ _ _ _ rfl (by decide +kernel) ?_
  show WQ X 591 (LL i) [.long ((rd X i 1).toInt64 <<< ((kI 32).toInt64 &&& 63)), .ref 0] _ _ _
  refine wl_read (y := mL_law) 2 (by decide +kernel) (by decide +kernel) (by decide +kernel) (by decide +kernel) (by decide +kernel) rfl (hi 2 (by omega)) ?_
  show WQ X 596 (LL i) [.int (rd X i 2), .long ((rd X i 1).toInt64 <<< ((kI 32).toInt64 &&& 63)), .ref 0] _ _ _
  refine sq_okX rfl [(.i2l, 0, 0, 0), (.ldc2_w 84, 0, 0, 4294967295), (.land, 0, 0, 0), (.lor, 0, 0, 0)] 596 _ _ _ _ _ rfl (by decide +kernel) ?_
  show WQ X 602 (LL i) [.long (((rd X i 1).toInt64 <<< ((kI 32).toInt64 &&& 63)) ||| ((rd X i 2).toInt64 &&& (kL 4294967295))), .ref 0] _ _ _
  refine wl_read (y := mL_law) 3 (by decide +kernel) (by decide +kernel) (by decide +kernel) (by decide +kernel) (by decide +kernel) rfl (hi 3 (by omega)) ?_
  show WQ X 607 (LL i) [.int (rd X i 3), .long (((rd X i 1).toInt64 <<< ((kI 32).toInt64 &&& 63)) ||| ((rd X i 2).toInt64 &&& (kL 4294967295))), .ref 0] _ _ _
  refine br (As := [.long (((rd X i 1).toInt64 <<< ((kI 32).toInt64 &&& 63)) ||| ((rd X i 2).toInt64 &&& (kL 4294967295))), .int (rd X i 3)]) (st_phrase h (((rd X i 1).toInt64 <<< ((kI 32).toInt64 &&& 63)) ||| ((rd X i 2).toInt64 &&& (kL 4294967295))) (rd X i 3)) (pcC := 607) (pcM := 636) (iC := 86) (iM := 90) (by decide +kernel) kL_86 (by decide +kernel) kL_90 rfl ⟨_, rfl, rfl⟩ ⟨_, rfl, rfl⟩ ⟨Nat.le_of_ble_eq_true rfl, Nat.le_of_ble_eq_true rfl⟩ ⟨Nat.le_of_ble_eq_true rfl, Nat.le_of_ble_eq_true rfl⟩ hr (fun v hv => by simp only [List.mem_cons, List.not_mem_nil, or_false] at hv; rcases hv with rfl | rfl; exact noR_J _; exact noR_I _) (fun z => noR_I _) (fun z => Nat.le_of_ble_eq_true rfl) (fun v w nc ns hk => ?_) (fun z w nc ns hk => ?_) k
  · refine sq_okX rfl [(.aload_n 2, 0, 0, 0)] 610 _ _ _ _ _ rfl (by decide +kernel) ?_
    show WQ X 611 (LL i) [.ref 112, v] _ _ _
    refine wl_read (y := mL_law) 1 (by decide +kernel) (by decide +kernel) (by decide +kernel) (by decide +kernel) (by decide +kernel) rfl (hi 1 (by omega)) ?_
    show WQ X 616 (LL i) [.int (rd X i 1), .ref 112, v] _ _ _
    refine sq_okX rfl [(.i2l, 0, 0, 0), (.bipush 32, 0, 0, 0), (.lshl, 0, 0, 0)] 616 _ _ _ _ _ rfl (by decide +kernel) ?_
    show WQ X 620 (LL i) [.long ((rd X i 1).toInt64 <<< ((kI 32).toInt64 &&& 63)), .ref 112, v] _ _ _
    refine wl_read (y := mL_law) 2 (by decide +kernel) (by decide +kernel) (by decide +kernel) (by decide +kernel) (by decide +kernel) rfl (hi 2 (by omega)) ?_
    show WQ X 625 (LL i) [.int (rd X i 2), .long ((rd X i 1).toInt64 <<< ((kI 32).toInt64 &&& 63)), .ref 112, v] _ _ _
    refine sq_okX rfl [(.i2l, 0, 0, 0), (.ldc2_w 84, 0, 0, 4294967295), (.land, 0, 0, 0), (.lor, 0, 0, 0)] 625 _ _ _ _ _ rfl (by decide +kernel) ?_
    show WQ X 631 (LL i) [.long (((rd X i 1).toInt64 <<< ((kI 32).toInt64 &&& 63)) ||| ((rd X i 2).toInt64 &&& (kL 4294967295))), .ref 112, v] _ _ _
    refine wl_read (y := mL_law) 3 (by decide +kernel) (by decide +kernel) (by decide +kernel) (by decide +kernel) (by decide +kernel) rfl (hi 3 (by omega)) ?_
    show WQ X 636 (LL i) [.int (rd X i 3), .long (((rd X i 1).toInt64 <<< ((kI 32).toInt64 &&& 63)) ||| ((rd X i 2).toInt64 &&& (kL 4294967295))), .ref 112, v] _ _ _
    exact hk
  · refine sq_okX rfl [(.if_icmp .eq 300, 0, 0, 0)] 639 _ _ _ _ _ rfl (by decide +kernel) ?_
    exact ⟨fun _ => hk, fun hn => absurd rfl hn⟩
set_option maxHeartbeats 4000000 in
theorem br_weight {X : SX} {c : CS} {m : MS} (h : IV c m) {nc ns : Nat} {i : Int32} (hr : rmC c nc ns) (hi : ∀ q : Int, 1 ≤ q ∧ q ≤ 4 → vp_in (i + kI q) X.2.1) (k : ∀ c' m' nc' ns', IV c' m' → rmC c' nc' ns' → WQ X 939 (LL i) [] (w2 c' m') nc' ns') : WQ X 644 (LL i) [] (w2 c m) nc ns := by
  refine sq_okX rfl [(.aload_n 1, 0, 0, 0)] 644 _ _ _ _ _ rfl (by decide +kernel) ?_
  show WQ X 645 (LL i) [.ref 0] _ _ _
  refine wl_read (y := mL_law) 1 (by decide +kernel) (by decide +kernel) (by decide +kernel) (by decide +kernel) (by decide +kernel) rfl (hi 1 (by omega)) ?_
  show WQ X 650 (LL i) [.int (rd X i 1), .ref 0] _ _ _
  refine sq_okX rfl [(.i2l, 0, 0, 0), (.bipush 32, 0, 0, 0), (.lshl, 0, 0, 0)] 650 _ _ _ _ _ rfl (by decide +kernel) ?_
  show WQ X 654 (LL i) [.long ((rd X i 1).toInt64 <<< ((kI 32).toInt64 &&& 63)), .ref 0] _ _ _
  refine wl_read (y := mL_law) 2 (by decide +kernel) (by decide +kernel) (by decide +kernel) (by decide +kernel) (by decide +kernel) rfl (hi 2 (by omega)) ?_
  show WQ X 659 (LL i) [.int (rd X i 2), .long ((rd X i 1).toInt64 <<< ((kI 32).toInt64 &&& 63)), .ref 0] _ _ _
  refine sq_okX rfl [(.i2l, 0, 0, 0), (.ldc2_w 84, 0, 0, 4294967295), (.land, 0, 0, 0), (.lor, 0, 0, 0)] 659 _ _ _ _ _ rfl (by decide +kernel) ?_
  show WQ X 665 (LL i) [.long (((rd X i 1).toInt64 <<< ((kI 32).toInt64 &&& 63)) ||| ((rd X i 2).toInt64 &&& (kL 4294967295))), .ref 0] _ _ _
  refine br (As := [.long (((rd X i 1).toInt64 <<< ((kI 32).toInt64 &&& 63)) ||| ((rd X i 2).toInt64 &&& (kL 4294967295)))]) (st_weight h (((rd X i 1).toInt64 <<< ((kI 32).toInt64 &&& 63)) ||| ((rd X i 2).toInt64 &&& (kL 4294967295)))) (pcC := 665) (pcM := 689) (iC := 91) (iM := 95) (by decide +kernel) kL_91 (by decide +kernel) kL_95 rfl ⟨_, rfl, rfl⟩ ⟨_, rfl, rfl⟩ ⟨Nat.le_of_ble_eq_true rfl, Nat.le_of_ble_eq_true rfl⟩ ⟨Nat.le_of_ble_eq_true rfl, Nat.le_of_ble_eq_true rfl⟩ hr (fun v hv => by simp only [List.mem_cons, List.not_mem_nil, or_false] at hv; rw [hv]; exact noR_J _) (fun z => noR_J _) (fun z => Nat.le_of_ble_eq_true rfl) (fun v w nc ns hk => ?_) (fun z w nc ns hk => ?_) k
  · refine sq_okX rfl [(.aload_n 2, 0, 0, 0)] 668 _ _ _ _ _ rfl (by decide +kernel) ?_
    show WQ X 669 (LL i) [.ref 112, v] _ _ _
    refine wl_read (y := mL_law) 1 (by decide +kernel) (by decide +kernel) (by decide +kernel) (by decide +kernel) (by decide +kernel) rfl (hi 1 (by omega)) ?_
    show WQ X 674 (LL i) [.int (rd X i 1), .ref 112, v] _ _ _
    refine sq_okX rfl [(.i2l, 0, 0, 0), (.bipush 32, 0, 0, 0), (.lshl, 0, 0, 0)] 674 _ _ _ _ _ rfl (by decide +kernel) ?_
    show WQ X 678 (LL i) [.long ((rd X i 1).toInt64 <<< ((kI 32).toInt64 &&& 63)), .ref 112, v] _ _ _
    refine wl_read (y := mL_law) 2 (by decide +kernel) (by decide +kernel) (by decide +kernel) (by decide +kernel) (by decide +kernel) rfl (hi 2 (by omega)) ?_
    show WQ X 683 (LL i) [.int (rd X i 2), .long ((rd X i 1).toInt64 <<< ((kI 32).toInt64 &&& 63)), .ref 112, v] _ _ _
    refine sq_okX rfl [(.i2l, 0, 0, 0), (.ldc2_w 84, 0, 0, 4294967295), (.land, 0, 0, 0), (.lor, 0, 0, 0)] 683 _ _ _ _ _ rfl (by decide +kernel) ?_
    show WQ X 689 (LL i) [.long (((rd X i 1).toInt64 <<< ((kI 32).toInt64 &&& 63)) ||| ((rd X i 2).toInt64 &&& (kL 4294967295))), .ref 112, v] _ _ _
    exact hk
  · refine sq_okX rfl [(.lcmp, 0, 0, 0), (.ifCond .eq 246, 0, 0, 0)] 692 _ _ _ _ _ rfl (by decide +kernel) ?_
    exact ⟨fun _ => hk, fun hn => absurd (lg_cmp_self _) hn⟩
set_option maxHeartbeats 4000000 in
theorem br_which {X : SX} {c : CS} {m : MS} (h : IV c m) {nc ns : Nat} {i : Int32} (hr : rmC c nc ns) (hi : ∀ q : Int, 1 ≤ q ∧ q ≤ 4 → vp_in (i + kI q) X.2.1) (k : ∀ c' m' nc' ns', IV c' m' → rmC c' nc' ns' → WQ X 939 (LL i) [] (w2 c' m') nc' ns') : WQ X 698 (LL i) [] (w2 c m) nc ns := by
  refine sq_okX rfl [(.aload_n 1, 0, 0, 0)] 698 _ _ _ _ _ rfl (by decide +kernel) ?_
  show WQ X 699 (LL i) [.ref 0] _ _ _
  refine br (As := []) (st_which h) (pcC := 699) (pcM := 703) (iC := 96) (iM := 99) (by decide +kernel) kL_96 (by decide +kernel) kL_99 rfl ⟨_, rfl, rfl⟩ ⟨_, rfl, rfl⟩ ⟨Nat.le_of_ble_eq_true rfl, Nat.le_of_ble_eq_true rfl⟩ ⟨Nat.le_of_ble_eq_true rfl, Nat.le_of_ble_eq_true rfl⟩ hr (fun v hv => by cases hv) (fun z => noR_J _) (fun z => Nat.le_of_ble_eq_true rfl) (fun v w nc ns hk => ?_) (fun z w nc ns hk => ?_) k
  · refine sq_okX rfl [(.aload_n 2, 0, 0, 0)] 702 _ _ _ _ _ rfl (by decide +kernel) ?_
    show WQ X 703 (LL i) [.ref 112, v] _ _ _
    exact hk
  · refine sq_okX rfl [(.lcmp, 0, 0, 0), (.ifCond .eq 232, 0, 0, 0)] 706 _ _ _ _ _ rfl (by decide +kernel) ?_
    exact ⟨fun _ => hk, fun hn => absurd (lg_cmp_self _) hn⟩
set_option maxHeartbeats 4000000 in
theorem br_heaviest {X : SX} {c : CS} {m : MS} (h : IV c m) {nc ns : Nat} {i : Int32} (hr : rmC c nc ns) (hi : ∀ q : Int, 1 ≤ q ∧ q ≤ 4 → vp_in (i + kI q) X.2.1) (k : ∀ c' m' nc' ns', IV c' m' → rmC c' nc' ns' → WQ X 939 (LL i) [] (w2 c' m') nc' ns') : WQ X 712 (LL i) [] (w2 c m) nc ns := by
  refine sq_okX rfl [(.aload_n 1, 0, 0, 0)] 712 _ _ _ _ _ rfl (by decide +kernel) ?_
  show WQ X 713 (LL i) [.ref 0] _ _ _
  refine br (As := []) (st_heaviest h) (pcC := 713) (pcM := 717) (iC := 100) (iM := 103) (by decide +kernel) kL_100 (by decide +kernel) kL_103 rfl ⟨_, rfl, rfl⟩ ⟨_, rfl, rfl⟩ ⟨Nat.le_of_ble_eq_true rfl, Nat.le_of_ble_eq_true rfl⟩ ⟨Nat.le_of_ble_eq_true rfl, Nat.le_of_ble_eq_true rfl⟩ hr (fun v hv => by cases hv) (fun z => noR_J _) (fun z => Nat.le_of_ble_eq_true rfl) (fun v w nc ns hk => ?_) (fun z w nc ns hk => ?_) k
  · refine sq_okX rfl [(.aload_n 2, 0, 0, 0)] 716 _ _ _ _ _ rfl (by decide +kernel) ?_
    show WQ X 717 (LL i) [.ref 112, v] _ _ _
    exact hk
  · refine sq_okX rfl [(.lcmp, 0, 0, 0), (.ifCond .eq 218, 0, 0, 0)] 720 _ _ _ _ _ rfl (by decide +kernel) ?_
    exact ⟨fun _ => hk, fun hn => absurd (lg_cmp_self _) hn⟩
set_option maxHeartbeats 4000000 in
theorem br_position {X : SX} {c : CS} {m : MS} (h : IV c m) {nc ns : Nat} {i : Int32} (hr : rmC c nc ns) (hi : ∀ q : Int, 1 ≤ q ∧ q ≤ 4 → vp_in (i + kI q) X.2.1) (k : ∀ c' m' nc' ns', IV c' m' → rmC c' nc' ns' → WQ X 939 (LL i) [] (w2 c' m') nc' ns') : WQ X 726 (LL i) [] (w2 c m) nc ns := by
  refine sq_okX rfl [(.aload_n 1, 0, 0, 0)] 726 _ _ _ _ _ rfl (by decide +kernel) ?_
  show WQ X 727 (LL i) [.ref 0] _ _ _
  refine wl_read (y := mL_law) 1 (by decide +kernel) (by decide +kernel) (by decide +kernel) (by decide +kernel) (by decide +kernel) rfl (hi 1 (by omega)) ?_
  show WQ X 732 (LL i) [.int (rd X i 1), .ref 0] _ _ _
  refine wl_read (y := mL_law) 2 (by decide +kernel) (by decide +kernel) (by decide +kernel) (by decide +kernel) (by decide +kernel) rfl (hi 2 (by omega)) ?_
  show WQ X 737 (LL i) [.int (rd X i 2), .int (rd X i 1), .ref 0] _ _ _
  refine br (As := [.int (rd X i 1), .int (rd X i 2)]) (st_position h (rd X i 1) (rd X i 2)) (pcC := 737) (pcM := 751) (iC := 104) (iM := 107) (by decide +kernel) kL_104 (by decide +kernel) kL_107 rfl ⟨_, rfl, rfl⟩ ⟨_, rfl, rfl⟩ ⟨Nat.le_of_ble_eq_true rfl, Nat.le_of_ble_eq_true rfl⟩ ⟨Nat.le_of_ble_eq_true rfl, Nat.le_of_ble_eq_true rfl⟩ hr (fun v hv => by simp only [List.mem_cons, List.not_mem_nil, or_false] at hv; rcases hv with rfl | rfl; exact noR_I _; exact noR_I _) (fun z => noR_I _) (fun z => Nat.le_of_ble_eq_true rfl) (fun v w nc ns hk => ?_) (fun z w nc ns hk => ?_) k
  · refine sq_okX rfl [(.aload_n 2, 0, 0, 0)] 740 _ _ _ _ _ rfl (by decide +kernel) ?_
    show WQ X 741 (LL i) [.ref 112, v] _ _ _
    refine wl_read (y := mL_law) 1 (by decide +kernel) (by decide +kernel) (by decide +kernel) (by decide +kernel) (by decide +kernel) rfl (hi 1 (by omega)) ?_
    show WQ X 746 (LL i) [.int (rd X i 1), .ref 112, v] _ _ _
    refine wl_read (y := mL_law) 2 (by decide +kernel) (by decide +kernel) (by decide +kernel) (by decide +kernel) (by decide +kernel) rfl (hi 2 (by omega)) ?_
    show WQ X 751 (LL i) [.int (rd X i 2), .int (rd X i 1), .ref 112, v] _ _ _
    exact hk
  · refine sq_okX rfl [(.if_icmp .eq 185, 0, 0, 0)] 754 _ _ _ _ _ rfl (by decide +kernel) ?_
    exact ⟨fun _ => hk, fun hn => absurd rfl hn⟩
set_option maxHeartbeats 4000000 in
theorem br_rows {X : SX} {c : CS} {m : MS} (h : IV c m) {nc ns : Nat} {i : Int32} (hr : rmC c nc ns) (hi : ∀ q : Int, 1 ≤ q ∧ q ≤ 4 → vp_in (i + kI q) X.2.1) (k : ∀ c' m' nc' ns', IV c' m' → rmC c' nc' ns' → WQ X 939 (LL i) [] (w2 c' m') nc' ns') : WQ X 759 (LL i) [] (w2 c m) nc ns := by
  refine sq_okX rfl [(.aload_n 1, 0, 0, 0)] 759 _ _ _ _ _ rfl (by decide +kernel) ?_
  show WQ X 760 (LL i) [.ref 0] _ _ _
  refine wl_read (y := mL_law) 1 (by decide +kernel) (by decide +kernel) (by decide +kernel) (by decide +kernel) (by decide +kernel) rfl (hi 1 (by omega)) ?_
  show WQ X 765 (LL i) [.int (rd X i 1), .ref 0] _ _ _
  refine br (As := [.int (rd X i 1)]) (st_rows h (rd X i 1)) (pcC := 765) (pcM := 774) (iC := 108) (iM := 112) (by decide +kernel) kL_108 (by decide +kernel) kL_112 rfl ⟨_, rfl, rfl⟩ ⟨_, rfl, rfl⟩ ⟨Nat.le_of_ble_eq_true rfl, Nat.le_of_ble_eq_true rfl⟩ ⟨Nat.le_of_ble_eq_true rfl, Nat.le_of_ble_eq_true rfl⟩ hr (fun v hv => by simp only [List.mem_cons, List.not_mem_nil, or_false] at hv; rw [hv]; exact noR_I _) (fun z => noR_J _) (fun z => Nat.le_of_ble_eq_true rfl) (fun v w nc ns hk => ?_) (fun z w nc ns hk => ?_) k
  · refine sq_okX rfl [(.aload_n 2, 0, 0, 0)] 768 _ _ _ _ _ rfl (by decide +kernel) ?_
    show WQ X 769 (LL i) [.ref 112, v] _ _ _
    refine wl_read (y := mL_law) 1 (by decide +kernel) (by decide +kernel) (by decide +kernel) (by decide +kernel) (by decide +kernel) rfl (hi 1 (by omega)) ?_
    show WQ X 774 (LL i) [.int (rd X i 1), .ref 112, v] _ _ _
    exact hk
  · refine sq_okX rfl [(.lcmp, 0, 0, 0), (.ifCond .eq 161, 0, 0, 0)] 777 _ _ _ _ _ rfl (by decide +kernel) ?_
    exact ⟨fun _ => hk, fun hn => absurd (lg_cmp_self _) hn⟩
set_option maxHeartbeats 4000000 in
theorem br_row {X : SX} {c : CS} {m : MS} (h : IV c m) {nc ns : Nat} {i : Int32} (hr : rmC c nc ns) (hi : ∀ q : Int, 1 ≤ q ∧ q ≤ 4 → vp_in (i + kI q) X.2.1) (k : ∀ c' m' nc' ns', IV c' m' → rmC c' nc' ns' → WQ X 939 (LL i) [] (w2 c' m') nc' ns') : WQ X 783 (LL i) [] (w2 c m) nc ns := by
  refine sq_okX rfl [(.aload_n 1, 0, 0, 0)] 783 _ _ _ _ _ rfl (by decide +kernel) ?_
  show WQ X 784 (LL i) [.ref 0] _ _ _
  refine wl_read (y := mL_law) 1 (by decide +kernel) (by decide +kernel) (by decide +kernel) (by decide +kernel) (by decide +kernel) rfl (hi 1 (by omega)) ?_
  show WQ X 789 (LL i) [.int (rd X i 1), .ref 0] _ _ _
  refine wl_read (y := mL_law) 2 (by decide +kernel) (by decide +kernel) (by decide +kernel) (by decide +kernel) (by decide +kernel) rfl (hi 2 (by omega)) ?_
  show WQ X 794 (LL i) [.int (rd X i 2), .int (rd X i 1), .ref 0] _ _ _
  refine sq_okX rfl [(.i2l, 0, 0, 0), (.bipush 32, 0, 0, 0), (.lshl, 0, 0, 0)] 794 _ _ _ _ _ rfl (by decide +kernel) ?_
  show WQ X 798 (LL i) [.long ((rd X i 2).toInt64 <<< ((kI 32).toInt64 &&& 63)), .int (rd X i 1), .ref 0] _ _ _
  refine wl_read (y := mL_law) 3 (by decide +kernel) (by decide +kernel) (by decide +kernel) (by decide +kernel) (by decide +kernel) rfl (hi 3 (by omega)) ?_
  show WQ X 803 (LL i) [.int (rd X i 3), .long ((rd X i 2).toInt64 <<< ((kI 32).toInt64 &&& 63)), .int (rd X i 1), .ref 0] _ _ _
  refine sq_okX rfl [(.i2l, 0, 0, 0), (.ldc2_w 84, 0, 0, 4294967295), (.land, 0, 0, 0), (.lor, 0, 0, 0)] 803 _ _ _ _ _ rfl (by decide +kernel) ?_
  show WQ X 809 (LL i) [.long (((rd X i 2).toInt64 <<< ((kI 32).toInt64 &&& 63)) ||| ((rd X i 3).toInt64 &&& (kL 4294967295))), .int (rd X i 1), .ref 0] _ _ _
  refine wl_read (y := mL_law) 4 (by decide +kernel) (by decide +kernel) (by decide +kernel) (by decide +kernel) (by decide +kernel) rfl (hi 4 (by omega)) ?_
  show WQ X 814 (LL i) [.int (rd X i 4), .long (((rd X i 2).toInt64 <<< ((kI 32).toInt64 &&& 63)) ||| ((rd X i 3).toInt64 &&& (kL 4294967295))), .int (rd X i 1), .ref 0] _ _ _
  refine br (As := [.int (rd X i 1), .long (((rd X i 2).toInt64 <<< ((kI 32).toInt64 &&& 63)) ||| ((rd X i 3).toInt64 &&& (kL 4294967295))), .int (rd X i 4)]) (st_row h (rd X i 1) (((rd X i 2).toInt64 <<< ((kI 32).toInt64 &&& 63)) ||| ((rd X i 3).toInt64 &&& (kL 4294967295))) (rd X i 4)) (pcC := 814) (pcM := 848) (iC := 113) (iM := 117) (by decide +kernel) kL_113 (by decide +kernel) kL_117 rfl ⟨_, rfl, rfl⟩ ⟨_, rfl, rfl⟩ ⟨Nat.le_of_ble_eq_true rfl, Nat.le_of_ble_eq_true rfl⟩ ⟨Nat.le_of_ble_eq_true rfl, Nat.le_of_ble_eq_true rfl⟩ hr (fun v hv => by simp only [List.mem_cons, List.not_mem_nil, or_false] at hv; rcases hv with rfl | rfl | rfl; exact noR_I _; exact noR_J _; exact noR_I _) (fun z => noR_I _) (fun z => Nat.le_of_ble_eq_true rfl) (fun v w nc ns hk => ?_) (fun z w nc ns hk => ?_) k
  · refine sq_okX rfl [(.aload_n 2, 0, 0, 0)] 817 _ _ _ _ _ rfl (by decide +kernel) ?_
    show WQ X 818 (LL i) [.ref 112, v] _ _ _
    refine wl_read (y := mL_law) 1 (by decide +kernel) (by decide +kernel) (by decide +kernel) (by decide +kernel) (by decide +kernel) rfl (hi 1 (by omega)) ?_
    show WQ X 823 (LL i) [.int (rd X i 1), .ref 112, v] _ _ _
    refine wl_read (y := mL_law) 2 (by decide +kernel) (by decide +kernel) (by decide +kernel) (by decide +kernel) (by decide +kernel) rfl (hi 2 (by omega)) ?_
    show WQ X 828 (LL i) [.int (rd X i 2), .int (rd X i 1), .ref 112, v] _ _ _
    refine sq_okX rfl [(.i2l, 0, 0, 0), (.bipush 32, 0, 0, 0), (.lshl, 0, 0, 0)] 828 _ _ _ _ _ rfl (by decide +kernel) ?_
    show WQ X 832 (LL i) [.long ((rd X i 2).toInt64 <<< ((kI 32).toInt64 &&& 63)), .int (rd X i 1), .ref 112, v] _ _ _
    refine wl_read (y := mL_law) 3 (by decide +kernel) (by decide +kernel) (by decide +kernel) (by decide +kernel) (by decide +kernel) rfl (hi 3 (by omega)) ?_
    show WQ X 837 (LL i) [.int (rd X i 3), .long ((rd X i 2).toInt64 <<< ((kI 32).toInt64 &&& 63)), .int (rd X i 1), .ref 112, v] _ _ _
    refine sq_okX rfl [(.i2l, 0, 0, 0), (.ldc2_w 84, 0, 0, 4294967295), (.land, 0, 0, 0), (.lor, 0, 0, 0)] 837 _ _ _ _ _ rfl (by decide +kernel) ?_
    show WQ X 843 (LL i) [.long (((rd X i 2).toInt64 <<< ((kI 32).toInt64 &&& 63)) ||| ((rd X i 3).toInt64 &&& (kL 4294967295))), .int (rd X i 1), .ref 112, v] _ _ _
    refine wl_read (y := mL_law) 4 (by decide +kernel) (by decide +kernel) (by decide +kernel) (by decide +kernel) (by decide +kernel) rfl (hi 4 (by omega)) ?_
    show WQ X 848 (LL i) [.int (rd X i 4), .long (((rd X i 2).toInt64 <<< ((kI 32).toInt64 &&& 63)) ||| ((rd X i 3).toInt64 &&& (kL 4294967295))), .int (rd X i 1), .ref 112, v] _ _ _
    exact hk
  · refine sq_okX rfl [(.if_icmp .eq 88, 0, 0, 0)] 851 _ _ _ _ _ rfl (by decide +kernel) ?_
    exact ⟨fun _ => hk, fun hn => absurd rfl hn⟩
set_option maxHeartbeats 4000000 in
theorem br_document {X : SX} {c : CS} {m : MS} (h : IV c m) {nc ns : Nat} {i : Int32} (hr : rmC c nc ns) (hi : ∀ q : Int, 1 ≤ q ∧ q ≤ 4 → vp_in (i + kI q) X.2.1) (k : ∀ c' m' nc' ns', IV c' m' → rmC c' nc' ns' → WQ X 939 (LL i) [] (w2 c' m') nc' ns') : WQ X 856 (LL i) [] (w2 c m) nc ns := by
  refine sq_okX rfl [(.aload_n 1, 0, 0, 0)] 856 _ _ _ _ _ rfl (by decide +kernel) ?_
  show WQ X 857 (LL i) [.ref 0] _ _ _
  refine br (As := []) (st_document h) (pcC := 857) (pcM := 861) (iC := 118) (iM := 121) (by decide +kernel) kL_118 (by decide +kernel) kL_121 rfl ⟨_, rfl, rfl⟩ ⟨_, rfl, rfl⟩ ⟨Nat.le_of_ble_eq_true rfl, Nat.le_of_ble_eq_true rfl⟩ ⟨Nat.le_of_ble_eq_true rfl, Nat.le_of_ble_eq_true rfl⟩ hr (fun v hv => by cases hv) (fun z => noR_I _) (fun z => Nat.le_of_ble_eq_true rfl) (fun v w nc ns hk => ?_) (fun z w nc ns hk => ?_) k
  · refine sq_okX rfl [(.aload_n 2, 0, 0, 0)] 860 _ _ _ _ _ rfl (by decide +kernel) ?_
    show WQ X 861 (LL i) [.ref 112, v] _ _ _
    exact hk
  · refine sq_okX rfl [(.if_icmp .eq 75, 0, 0, 0)] 864 _ _ _ _ _ rfl (by decide +kernel) ?_
    exact ⟨fun _ => hk, fun hn => absurd rfl hn⟩
set_option maxHeartbeats 4000000 in
theorem br_hits {X : SX} {c : CS} {m : MS} (h : IV c m) {nc ns : Nat} {i : Int32} (hr : rmC c nc ns) (hi : ∀ q : Int, 1 ≤ q ∧ q ≤ 4 → vp_in (i + kI q) X.2.1) (k : ∀ c' m' nc' ns', IV c' m' → rmC c' nc' ns' → WQ X 939 (LL i) [] (w2 c' m') nc' ns') : WQ X 869 (LL i) [] (w2 c m) nc ns := by
  refine sq_okX rfl [(.aload_n 1, 0, 0, 0)] 869 _ _ _ _ _ rfl (by decide +kernel) ?_
  show WQ X 870 (LL i) [.ref 0] _ _ _
  refine br (As := []) (st_hits h) (pcC := 870) (pcM := 874) (iC := 122) (iM := 125) (by decide +kernel) kL_122 (by decide +kernel) kL_125 rfl ⟨_, rfl, rfl⟩ ⟨_, rfl, rfl⟩ ⟨Nat.le_of_ble_eq_true rfl, Nat.le_of_ble_eq_true rfl⟩ ⟨Nat.le_of_ble_eq_true rfl, Nat.le_of_ble_eq_true rfl⟩ hr (fun v hv => by cases hv) (fun z => noR_I _) (fun z => Nat.le_of_ble_eq_true rfl) (fun v w nc ns hk => ?_) (fun z w nc ns hk => ?_) k
  · refine sq_okX rfl [(.aload_n 2, 0, 0, 0)] 873 _ _ _ _ _ rfl (by decide +kernel) ?_
    show WQ X 874 (LL i) [.ref 112, v] _ _ _
    exact hk
  · refine sq_okX rfl [(.if_icmp .eq 62, 0, 0, 0)] 877 _ _ _ _ _ rfl (by decide +kernel) ?_
    exact ⟨fun _ => hk, fun hn => absurd rfl hn⟩
set_option maxHeartbeats 4000000 in
theorem br_hit {X : SX} {c : CS} {m : MS} (h : IV c m) {nc ns : Nat} {i : Int32} (hr : rmC c nc ns) (hi : ∀ q : Int, 1 ≤ q ∧ q ≤ 4 → vp_in (i + kI q) X.2.1) (k : ∀ c' m' nc' ns', IV c' m' → rmC c' nc' ns' → WQ X 939 (LL i) [] (w2 c' m') nc' ns') : WQ X 882 (LL i) [] (w2 c m) nc ns := by
  refine sq_okX rfl [(.aload_n 1, 0, 0, 0)] 882 _ _ _ _ _ rfl (by decide +kernel) ?_
  show WQ X 883 (LL i) [.ref 0] _ _ _
  refine wl_read (y := mL_law) 1 (by decide +kernel) (by decide +kernel) (by decide +kernel) (by decide +kernel) (by decide +kernel) rfl (hi 1 (by omega)) ?_
  show WQ X 888 (LL i) [.int (rd X i 1), .ref 0] _ _ _
  refine wl_read (y := mL_law) 2 (by decide +kernel) (by decide +kernel) (by decide +kernel) (by decide +kernel) (by decide +kernel) rfl (hi 2 (by omega)) ?_
  show WQ X 893 (LL i) [.int (rd X i 2), .int (rd X i 1), .ref 0] _ _ _
  refine br (As := [.int (rd X i 1), .int (rd X i 2)]) (st_hit h (rd X i 1) (rd X i 2)) (pcC := 893) (pcM := 907) (iC := 126) (iM := 129) (by decide +kernel) kL_126 (by decide +kernel) kL_129 rfl ⟨_, rfl, rfl⟩ ⟨_, rfl, rfl⟩ ⟨Nat.le_of_ble_eq_true rfl, Nat.le_of_ble_eq_true rfl⟩ ⟨Nat.le_of_ble_eq_true rfl, Nat.le_of_ble_eq_true rfl⟩ hr (fun v hv => by simp only [List.mem_cons, List.not_mem_nil, or_false] at hv; rcases hv with rfl | rfl; exact noR_I _; exact noR_I _) (fun z => noR_I _) (fun z => Nat.le_of_ble_eq_true rfl) (fun v w nc ns hk => ?_) (fun z w nc ns hk => ?_) k
  · refine sq_okX rfl [(.aload_n 2, 0, 0, 0)] 896 _ _ _ _ _ rfl (by decide +kernel) ?_
    show WQ X 897 (LL i) [.ref 112, v] _ _ _
    refine wl_read (y := mL_law) 1 (by decide +kernel) (by decide +kernel) (by decide +kernel) (by decide +kernel) (by decide +kernel) rfl (hi 1 (by omega)) ?_
    show WQ X 902 (LL i) [.int (rd X i 1), .ref 112, v] _ _ _
    refine wl_read (y := mL_law) 2 (by decide +kernel) (by decide +kernel) (by decide +kernel) (by decide +kernel) (by decide +kernel) rfl (hi 2 (by omega)) ?_
    show WQ X 907 (LL i) [.int (rd X i 2), .int (rd X i 1), .ref 112, v] _ _ _
    exact hk
  · refine sq_okX rfl [(.if_icmp .eq 29, 0, 0, 0)] 910 _ _ _ _ _ rfl (by decide +kernel) ?_
    exact ⟨fun _ => hk, fun hn => absurd rfl hn⟩
set_option maxHeartbeats 4000000 in
theorem br_hitWeight {X : SX} {c : CS} {m : MS} (h : IV c m) {nc ns : Nat} {i : Int32} (hr : rmC c nc ns) (hi : ∀ q : Int, 1 ≤ q ∧ q ≤ 4 → vp_in (i + kI q) X.2.1) (k : ∀ c' m' nc' ns', IV c' m' → rmC c' nc' ns' → WQ X 939 (LL i) [] (w2 c' m') nc' ns') : WQ X 915 (LL i) [] (w2 c m) nc ns := by
  refine sq_okX rfl [(.aload_n 1, 0, 0, 0)] 915 _ _ _ _ _ rfl (by decide +kernel) ?_
  show WQ X 916 (LL i) [.ref 0] _ _ _
  refine wl_read (y := mL_law) 1 (by decide +kernel) (by decide +kernel) (by decide +kernel) (by decide +kernel) (by decide +kernel) rfl (hi 1 (by omega)) ?_
  show WQ X 921 (LL i) [.int (rd X i 1), .ref 0] _ _ _
  refine br (As := [.int (rd X i 1)]) (st_hitWeight h (rd X i 1)) (pcC := 921) (pcM := 930) (iC := 130) (iM := 133) (by decide +kernel) kL_130 (by decide +kernel) kL_133 rfl ⟨_, rfl, rfl⟩ ⟨_, rfl, rfl⟩ ⟨Nat.le_of_ble_eq_true rfl, Nat.le_of_ble_eq_true rfl⟩ ⟨Nat.le_of_ble_eq_true rfl, Nat.le_of_ble_eq_true rfl⟩ hr (fun v hv => by simp only [List.mem_cons, List.not_mem_nil, or_false] at hv; rw [hv]; exact noR_I _) (fun z => noR_J _) (fun z => Nat.le_of_ble_eq_true rfl) (fun v w nc ns hk => ?_) (fun z w nc ns hk => ?_) k
  · refine sq_okX rfl [(.aload_n 2, 0, 0, 0)] 924 _ _ _ _ _ rfl (by decide +kernel) ?_
    show WQ X 925 (LL i) [.ref 112, v] _ _ _
    refine wl_read (y := mL_law) 1 (by decide +kernel) (by decide +kernel) (by decide +kernel) (by decide +kernel) (by decide +kernel) rfl (hi 1 (by omega)) ?_
    show WQ X 930 (LL i) [.int (rd X i 1), .ref 112, v] _ _ _
    exact hk
  · refine sq_okX rfl [(.lcmp, 0, 0, 0), (.ifCond .eq 5, 0, 0, 0)] 933 _ _ _ _ _ rfl (by decide +kernel) ?_
    exact ⟨fun _ => hk, fun hn => absurd (lg_cmp_self _) hn⟩
