/-! PURE PROOFS 51: ask, the other -/
theorem ask_M {M m : mMem} (h : Inv M) (hm : FrL m M) {x : Int} (c : x = 0 ∨ x = 1) {cn ns k : Nat} (hk : M 1 5 = k) (hcn : HcP M cn) (ok : HoOK M (hoF (M 2) 36) cn ns) : mI3 10 181 [vr 53, vi x] m (fun v m' => v = (if (asS M (hoF (M 2) 36) cn ns k).1 = -4 then (asS M (hoF (M 2) 36) cn ns k).1 else if x ≠ 0 then -(asS M (hoF (M 2) 36) cn ns k).2 else (asS M (hoF (M 2) 36) cn ns k).1) ∧ FrM m' m) := by
  have hc := h.1
  have hs := h.2.2.2.2.2.1
  have hp := Pg0_of h.2.1
  have n5 : 0 ≤ M 1 5 ∧ M 1 5 ≤ 5 := hc.2.1
  have m54 := (FrL_lo hm).2
  refine mI3_i ⟨by decide, Nat.le_of_ble_eq_true rfl⟩ (fun K hK => q_M_ask_0 hK x m ⟨_, _, R_in 8 _ _ _ _, br_t (b2_n0.mpr (by omega)) (cI (M_ho 8 h.2.1 (fun i a b => by rw [m54]) (by rw [hm.1 53 (by omega)]) (hm.1 60 (by omega)) hcn ok.1) (fun v m1 p => ?_))⟩)
  refine br_t p.1 (cI (M_fills 5 h.2.1 hc hs ok hcn (m0 := m1) p.2.2.1 p.2.2.2.2.2.1 p.2.2.2.2.2.2) (fun v2 m2 p2 => ?_))
  obtain ⟨q1, q2⟩ := p2
  have q2 : HoM M m m2 (hoF (M 2) 36) cn := ⟨FrM_trans q2.1 p.2.1, q2.2⟩
  have loop : ∀ (j i : Nat), i + j = k → ∀ (m' : mMem) (st : Int × Int), st = asS M (hoF (M 2) 36) cn ns i → HoM M m m' (hoF (M 2) 36) cn → K 33 [(0, vr 53), (1, vi x), (2, vi (-st.2)), (3, vi st.1), (4, vi (i : Int))] [] (S0, m') := by
    intro j
    induction j with
    | zero =>
      intro i hi m' st h0 h1
      have e5 : m' 54 39 = k := by rw [h1.2.1 39 (by decide) (by decide), hp.2.2.1, hk]
      rw [show i = k by omega] at h0 ⊢
      refine q_M_ask_33 hK _ _ _ _ m' (br_t (by rw [e5]; exact Int.le_refl _) ⟨fun q => rI_i ⟨?_, h1.1⟩, fun q => ⟨fun q2 => rI_i ⟨?_, h1.1⟩, fun q2 => rI_i ⟨?_, h1.1⟩⟩⟩)
      · rw [← h0, if_pos q]
      · rw [← h0, if_neg q, if_pos q2]
      · rw [← h0, if_neg q, if_neg q2]
    | succ j ih =>
      intro i hi m' st h0 h1
      have h4 := ih (i + 1) (by omega)
      have e5 : m' 54 39 = k := by rw [h1.2.1 39 (by decide) (by decide), hp.2.2.1, hk]
      have ew : w32 ((i : Int) + 1) = ((i + 1 : Nat) : Int) := by rw [w32_s (by omega) (by omega)]; omega
      have lt : ¬ ((k : Nat) : Int) ≤ (i : Int) := by omega
      have ib : 0 ≤ (i : Int) ∧ (i : Int) < M 1 5 := by omega
      rw [asS_s, ← h0] at h4
      refine q_M_ask_33 hK _ _ _ _ m' (br_f (by rw [e5]; exact lt) (cI (M_worst 5 h.2.1 hc hs ok ib h1) (fun v m3 p3 => ?_)))
      rw [← p3.1] at h4
      unfold off at h4
      refine ⟨fun z => q_M_ask_65 hK _ _ _ _ _ m3 ?_, fun z => q_M_ask_65 hK _ _ _ _ _ m3 ?_⟩
      · rw [ew]
        refine br_t z ?_
        rw [if_pos (by omega)] at h4
        exact h4 m3 st rfl p3.2
      · rw [ew]
        refine br_f z ?_
        rw [if_neg (by omega)] at h4
        have h5 := h4 m3 _ rfl p3.2
        rw [show -((i : Int), -v).2 = v from Int.neg_neg v] at h5
        exact h5
  have l0 := loop k 0 (by omega) m2 _ rfl q2
  have l1 : K 33 [(0, vr 53), (1, vi x), (2, vi (- -(flS M (hoF (M 2) 36) cn ns (4 ^ cn)))), (3, vi (-4)), (4, vi 0)] [] (S0, m2) := l0
  rw [Int.neg_neg] at l1
  rw [q1]
  exact l1
