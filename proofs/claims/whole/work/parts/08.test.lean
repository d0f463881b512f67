theorem c_wordAt (a i : Int32) : CT mX4_wordAt 0 0 [.int a, .int i] [] (fun r w => r = some (.int (((a.toUInt32 >>> ((8 * i).toUInt32 &&& Int32.toUInt32 31)).toInt32 &&& 255) - 1)) ∧ w = []) := by
  refine CT.intro rfl (by decide) ?_
  refine sq_ok rfl [(.iload_n 0, 0, 0, 0), (.bipush 8, 0, 0, 0), (.iload_n 1, 0, 0, 0), (.imul, 0, 0, 0), (.iushr, 0, 0, 0), (.sipush 255, 0, 0, 0), (.iand, 0, 0, 0), (.iconst 1, 0, 0, 0), (.isub, 0, 0, 0), (.ireturn, 0, 0, 0)] _ _ _ _ _ _ (by decide +kernel) ?_
  show (0 ≤ 0 ∧ 0 ≤ 0) ∧ _ ∧ _
  exact ⟨⟨Nat.le_refl _, Nat.le_refl _⟩, rfl, rfl⟩
