/-! PURE PROOFS 18: cell, thread -/
theorem P_cell {M : mMem} (h : Inv M) (x y : Int) : PairI 50 138 [vi x, vi y] M := by
  have hp := h.2.1
  by_cases c : 0 ≤ x ∧ x < 6 ∧ 0 ≤ y ∧ y < 6
  · refine ⟨M 2 (6 * x + y), M, M, ⟨⟨by decide, Nat.le_of_ble_eq_true rfl⟩, fun K hK => q_L_cell_0 hK x y M ⟨_, _, R_isCell 8 M x y, br_f (fun z => b2_0.mp z c) ⟨_, _, R_place 8 M (x := x) (y := y) (by omega) (by omega), mIn_i (by omega) (by omega) (mret_i rfl rfl)⟩⟩⟩, ⟨⟨by decide, Nat.le_of_ble_eq_true rfl⟩, fun K hK => q_M_cell_0 hK x y M ⟨_, _, R_mIsCell 7 M x y, br_f (fun z => b2_0.mp z c) ?_⟩⟩, h⟩
    have e : w32 (w32 (6 * x) + y) = 6 * x + y := by rw [w32_s (z := 6 * x) (by omega) (by omega), w32_s (by omega) (by omega)]
    rw [e]
    refine mIn_i (by omega) (by omega) (mret_i ?_ rfl)
    have g := hp.1 (6 * x + y) (by omega) (by omega)
    rw [Int.zero_add] at g
    exact g
  · exact ⟨-1, M, M, ⟨⟨by decide, Nat.le_of_ble_eq_true rfl⟩, fun K hK => q_L_cell_0 hK x y M ⟨_, _, R_isCell 8 M x y, br_t (b2_f c) (mret_i rfl rfl)⟩⟩, ⟨⟨by decide, Nat.le_of_ble_eq_true rfl⟩, fun K hK => q_M_cell_0 hK x y M ⟨_, _, R_mIsCell 7 M x y, br_t (b2_f c) (mret_i rfl rfl)⟩⟩, h⟩
theorem P_thread {M : mMem} (h : Inv M) (c : Int) : PairI 51 139 [vi c] M := by
  have hp := h.2.1
  have hs := h.1.2.2.2.2.2
  by_cases z : 1 ≤ c ∧ c ≤ 3
  · refine ⟨M 3 c, M, M, ⟨⟨by decide, Nat.le_of_ble_eq_true rfl⟩, fun K hK => q_L_thread_0 hK c M ⟨_, _, R_isColour 8 M c, br_f (fun q => b2_0.mp q z) (mIn_i (by omega) (by omega) (mret_i rfl rfl))⟩⟩, ⟨⟨by decide, Nat.le_of_ble_eq_true rfl⟩, fun K hK => q_M_thread_0 hK c M ⟨_, _, R_mIsColour 7 M c, br_f (fun q => b2_0.mp q z) ?_⟩⟩, h⟩
    have e : w32 (w32 (36 + c) - 1) = 0 + 35 + c := by
      rw [w32_s (z := 36 + c) (by omega) (by omega), w32_s (by omega) (by omega)]
      omega
    have g : M 54 (0 + 35 + c) + 20 = M 3 c := hp.2.1 c z.1 z.2
    have r : 0 ≤ M 3 c ∧ M 3 c ≤ 99 := hs c z.1 z.2
    rw [e, g, w32_s (z := M 3 c) (by omega) (by omega)]
    exact mIn_i (by omega) (by omega) (mret_i rfl rfl)
  · exact ⟨-1, M, M, ⟨⟨by decide, Nat.le_of_ble_eq_true rfl⟩, fun K hK => q_L_thread_0 hK c M ⟨_, _, R_isColour 8 M c, br_t (b2_f z) (mret_i rfl rfl)⟩⟩, ⟨⟨by decide, Nat.le_of_ble_eq_true rfl⟩, fun K hK => q_M_thread_0 hK c M ⟨_, _, R_mIsColour 7 M c, br_t (b2_f z) (mret_i rfl rfl)⟩⟩, h⟩
