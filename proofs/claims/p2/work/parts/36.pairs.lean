/-! PURE PROOFS 14: pairs of calls -/
def PairI (y1 y2 : Nat) (as : List mVal) (M : mMem) : Prop := ∃ v m1 m2, mR3 10 y1 (vr 0 :: as) (S0, M) (some (vi v), (S0, m1)) ∧ mR3 10 y2 (vr 53 :: as) (S0, m1) (some (vi v), (S0, m2)) ∧ Inv m2
theorem P_fault {M : mMem} (h : Inv M) : PairI 48 127 [] M := by
  refine ⟨M 35 2, M, M, ⟨⟨by decide, Nat.le_of_ble_eq_true rfl⟩, fun K hK => q_L_fault_0 hK M (mret_i rfl rfl)⟩, ⟨⟨by decide, Nat.le_of_ble_eq_true rfl⟩, fun K hK => q_M_fault_0 hK M (mret_i ?_ rfl)⟩, h⟩
  exact h.2.2.2.2.1.2.2.1.symm
theorem P_torn {M : mMem} (h : Inv M) : PairI 85 188 [] M := by
  refine ⟨M 0 16, M, M, ⟨⟨by decide, Nat.le_of_ble_eq_true rfl⟩, fun K hK => q_L_torn_0 hK M (mret_i rfl rfl)⟩, ⟨⟨by decide, Nat.le_of_ble_eq_true rfl⟩, fun K hK => q_M_torn_0 hK M (mret_i ?_ rfl)⟩, h⟩
  exact h.2.2.2.2.2.2.2.1.symm
theorem R_L_end (d : Nat) (M : mMem) (n : Int) : mR3 (d + 1) 46 [vr 0, vi n] (S0, M) (some (vi (if 0 ≤ n ∧ n ≤ M 35 1 then M 35 1 else -1)), (S0, if 0 ≤ n ∧ n ≤ M 35 1 then mupd M 35 1 n else M)) := by
  refine ⟨⟨by decide, Nat.le_of_ble_eq_true rfl⟩, fun K hK => q_L_end_0 hK n M ⟨fun q => ?_, fun q => ⟨fun q2 => ?_, fun q2 => ?_⟩⟩⟩
  · exact mret_i (if_neg (by omega)).symm (if_neg (by omega)).symm
  · exact mret_i (if_pos (by omega)).symm (if_pos (by omega)).symm
  · exact mret_i (if_neg (by omega)).symm (if_neg (by omega)).symm
theorem R_M_end (d : Nat) (M : mMem) (n : Int) : mR3 (d + 2) 117 [vr 53, vi n] (S0, M) (some (vi (if 0 ≤ n ∧ n ≤ M 53 5 then M 53 5 else -1)), (S0, if 0 ≤ n ∧ n ≤ M 53 5 then mupd M 53 5 n else M)) := by
  refine ⟨⟨by decide, Nat.le_of_ble_eq_true rfl⟩, fun K hK => q_M_end_0 hK n M ⟨_, _, R_in d M _ _ _, ⟨fun q => ?_, fun q => ?_⟩⟩⟩
  · have q := b2_n0.mp q
    exact mret_i (if_pos (by omega)).symm (if_pos (by omega)).symm
  · have q := b2_0.mp (Decidable.not_not.mp q)
    exact mret_i (if_neg (by omega)).symm (if_neg (by omega)).symm
theorem R_L_forget (d : Nat) (M : mMem) (n : Int) : mR3 (d + 1) 74 [vr 0, vi n] (S0, M) (some (vi (if 0 ≤ n ∧ n ≤ M 0 13 then M 0 13 else -1)), (S0, if 0 ≤ n ∧ n ≤ M 0 13 then mupd M 0 13 n else M)) := by
  refine ⟨⟨by decide, Nat.le_of_ble_eq_true rfl⟩, fun K hK => q_L_forget_0 hK n M ⟨fun q => ?_, fun q => ⟨fun q2 => ?_, fun q2 => ?_⟩⟩⟩
  · exact mret_i (if_neg (by omega)).symm (if_neg (by omega)).symm
  · exact mret_i (if_pos (by omega)).symm (if_pos (by omega)).symm
  · exact mret_i (if_neg (by omega)).symm (if_neg (by omega)).symm
theorem R_M_forget (d : Nat) (M : mMem) (n : Int) : mR3 (d + 2) 173 [vr 53, vi n] (S0, M) (some (vi (if 0 ≤ n ∧ n ≤ M 53 22 then M 53 22 else -1)), (S0, if 0 ≤ n ∧ n ≤ M 53 22 then mupd M 53 22 n else M)) := by
  refine ⟨⟨by decide, Nat.le_of_ble_eq_true rfl⟩, fun K hK => q_M_forget_0 hK n M ⟨_, _, R_in d M _ _ _, ⟨fun q => ?_, fun q => ?_⟩⟩⟩
  · have q := b2_n0.mp q
    exact mret_i (if_pos (by omega)).symm (if_pos (by omega)).symm
  · have q := b2_0.mp (Decidable.not_not.mp q)
    exact mret_i (if_neg (by omega)).symm (if_neg (by omega)).symm
