/-! PURE PROOFS 50: ask -/
theorem P_ask {M : mMem} (h : Inv M) (x : Int) : PairI 78 181 [vi x] M := by
  have hc := h.1
  have hs := h.2.2.2.2.2.1
  have hp := Pg0_of h.2.1
  have n5 : 0 ≤ M 1 5 ∧ M 1 5 ≤ 5 := hc.2.1
  obtain ⟨k, hk⟩ : ∃ k : Nat, M 1 5 = k := ⟨(M 1 5).toNat, by omega⟩
  by_cases c : x = 0 ∨ x = 1
  · rcases ho_get hs with big | ⟨cn, ns, hcn, ok⟩
    · refine ask_pair (V := -2) h ?_ (fun m hm => ?_)
      · exact mI3_i ⟨by decide, Nat.le_of_ble_eq_true rfl⟩ (fun K hK => q_L_ask_0 hK x M ⟨_, _, R_isPart 8 M x, br_t (b2_n0.mpr c) (cI (L_ho0 7 hc (FrL_refl M) big) (fun v m1 p => br_f (fun q => q p.1) (rI_i ⟨rfl, p.2⟩)))⟩)
      · exact mI3_i ⟨by decide, Nat.le_of_ble_eq_true rfl⟩ (fun K hK => q_M_ask_0 hK x m ⟨_, _, R_in 8 _ _ _ _, br_t (b2_n0.mpr (by omega)) (cI (M_ho0 8 h.2.1 (fun i a b => by rw [(FrL_lo hm).2]) big) (fun v m1 p => br_f (by rw [p.1]; decide) (rI_i ⟨rfl, p.2.1⟩)))⟩)
    · refine ask_pair (V := if (asS M (hoF (M 2) 36) cn ns k).1 = -4 then (asS M (hoF (M 2) 36) cn ns k).1 else if x ≠ 0 then -(asS M (hoF (M 2) 36) cn ns k).2 else (asS M (hoF (M 2) 36) cn ns k).1) h ?_ (fun m hm => ?_)
      · exact ask_L h c hk hcn ok
      · exact ask_M h hm c hk hcn ok
  · exact ⟨-1, M, M, ⟨⟨by decide, Nat.le_of_ble_eq_true rfl⟩, fun K hK => q_L_ask_0 hK x M ⟨_, _, R_isPart 8 M x, br_f (fun q => c (b2_n0.mp q)) (mret_i rfl rfl)⟩⟩, ⟨⟨by decide, Nat.le_of_ble_eq_true rfl⟩, fun K hK => q_M_ask_0 hK x M ⟨_, _, R_in 8 _ _ _ _, br_f (fun q => c (by have q := b2_n0.mp q; omega)) (mret_i rfl rfl)⟩⟩, h⟩
