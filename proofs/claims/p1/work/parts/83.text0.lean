/-! PURE PROOFS 60: a first call: text -/
theorem mclear_ne (M : mMem) {k j : Nat} (h : j < k ∨ k + 8 ≤ j) : mclear M k j = M j := by
  unfold mclear
  rw [mupd_ne _ _ _ (by omega), mupd_ne _ _ _ (by omega), mfill_ne _ _ _ (by omega), mupd_ne _ _ _ (by omega), mupd_ne _ _ _ (by omega), mfill_ne _ _ _ (by omega), mfill_ne _ _ _ (by omega), mfill_ne _ _ _ (by omega)]
theorem isCh9 : isCh S0 9 := by
  unfold isCh
  decide +kernel
theorem R_byteAt (d : Nat) (M : mMem) (k : Int) (hk : 0 ≤ k) (h : M 53 5 ≤ 160) : mR3 (d + 1) 118 [vr 53, vi k] (S0, M) (some (vi (if M 53 5 ≤ k then -4 else M 56 k)), (S0, M)) := by
  refine ⟨⟨by decide, Nat.le_of_ble_eq_true rfl⟩, fun K hK => q_M_byteAt_0 hK k M ⟨fun q => mret_i ?_ rfl, fun q => mIn_i hk (by omega) (mret_i ?_ rfl)⟩⟩
  · rw [if_pos q]
  · rw [if_neg q]
theorem F_token {N : mMem} (h1 : N 35 1 = 0) (h2 : N 35 2 = 0) (h4 : N 35 4 = 0) : mN3 8 33 [vr 35] N (fun m => m 35 2 = 0 ∧ m 35 5 = 0 ∧ m 53 = N 53) := by
  refine mN3_i ⟨by decide, Nat.le_of_ble_eq_true rfl⟩ (fun K hK => q_T_readToken_0 hK N (br_t h2 (q_T_readToken_8 hK N (br_t (by omega) (q_T_readToken_46 hK N (br_f ?_ (rN_i ⟨?_, ?_, ?_⟩)))))))
  · rw [mupd_at, fup_ne _ _ (by decide), fup_ne _ _ (by decide)]
    omega
  · rw [mupd_at, fup_ne _ _ (by decide), mupd_at, fup_ne _ _ (by decide)]
    exact h2
  · rw [mupd_at, fup_at]
  · rw [mupd_ne _ _ _ (by decide), mupd_ne _ _ _ (by decide)]
theorem F_tell {M : mMem} (h1 : M 35 1 = 0) : mI3 9 31 [vr 35, vr 9] M (fun v m => v = 0 ∧ m 35 2 = 0 ∧ m 53 = M 53) := by
  refine mI3_i ⟨by decide, Nat.le_of_ble_eq_true rfl⟩ (fun K hK => q_T_tell_0 hK M ⟨_, R_clear 6 S0 M 9 isCh9, ?_⟩)
  have c35 : mclear M 9 35 = M 35 := mclear_ne M (by omega)
  have c53 : mclear M 9 53 = M 53 := mclear_ne M (by omega)
  generalize mclear M 9 = m1 at c35 c53
  have n1 : mupd (mupd (mupd (mupd (mupd m1 35 2 0) 35 3 0) 35 4 0) 35 8 0) 35 9 0 35 1 = 0 := by rw [mupd_at, fup_ne _ _ (by decide), mupd_at, fup_ne _ _ (by decide), mupd_at, fup_ne _ _ (by decide), mupd_at, fup_ne _ _ (by decide), mupd_at, fup_ne _ _ (by decide), c35, h1]
  have n2 : mupd (mupd (mupd (mupd (mupd m1 35 2 0) 35 3 0) 35 4 0) 35 8 0) 35 9 0 35 2 = 0 := by rw [mupd_at, fup_ne _ _ (by decide), mupd_at, fup_ne _ _ (by decide), mupd_at, fup_ne _ _ (by decide), mupd_at, fup_ne _ _ (by decide), mupd_at, fup_at]
  have n4 : mupd (mupd (mupd (mupd (mupd m1 35 2 0) 35 3 0) 35 4 0) 35 8 0) 35 9 0 35 4 = 0 := by rw [mupd_at, fup_ne _ _ (by decide), mupd_at, fup_ne _ _ (by decide), mupd_at, fup_at]
  have n53 : mupd (mupd (mupd (mupd (mupd m1 35 2 0) 35 3 0) 35 4 0) 35 8 0) 35 9 0 53 = M 53 := by rw [mupd_ne _ _ _ (by decide), mupd_ne _ _ _ (by decide), mupd_ne _ _ _ (by decide), mupd_ne _ _ _ (by decide), mupd_ne _ _ _ (by decide), c53]
  generalize mupd (mupd (mupd (mupd (mupd m1 35 2 0) 35 3 0) 35 4 0) 35 8 0) 35 9 0 = N at n1 n2 n4 n53
  refine q_T_tell_33 hK 0 0 N (br_f (by decide) (cN (F_token n1 n2 n4) (fun m p => ?_)))
  obtain ⟨p1, p2, p3⟩ := p
  exact br_f (fun q => q p1) (br_f (fun q => q p2) (rI_i ⟨rfl, p1, by rw [p3, n53]⟩))
theorem F_text {M : mMem} (h1 : M 35 1 = 0) (h5 : M 53 5 = 0) : Pair0 47 126 [] M := by
  have a1 : mI3 10 47 [vr 0] M (fun v m => v = 0 ∧ m 53 = M 53) := by
    refine mI3_i ⟨by decide, Nat.le_of_ble_eq_true rfl⟩ (fun K hK => q_L_text_0 hK M (cI (F_tell h1) (fun v m p => ?_)))
    obtain ⟨p1, p2, p3⟩ := p
    have e2 : mupd m 35 1 0 35 2 = 0 := by rw [mupd_at, fup_ne _ _ (by decide), p2]
    refine br_t e2 ⟨_, R_copyFrom 8 _ 1 9 (by unfold cpP; omega), rI_i ⟨p1, ?_⟩⟩
    rw [mupd_ne _ _ _ (by decide), mupd_ne _ _ _ (by decide), mupd_ne _ _ _ (by decide), cpy_ne _ (by omega), mupd_ne _ _ _ (by decide), p3]
  obtain ⟨v, m1, ⟨e, e53⟩, r1⟩ := a1
  rw [e] at r1
  have a2 : mI3 10 126 [vr 53] m1 (fun v m => v = 0) := by
    refine mI3_i ⟨by decide, Nat.le_of_ble_eq_true rfl⟩ (fun K hK => q_M_text_0 hK m1 ?_)
    have n7 : mupd (mupd (mupd (mupd m1 53 7 0) 53 9 0) 53 2 0) 53 3 0 53 7 = 0 := by rw [mupd_at, fup_ne _ _ (by decide), mupd_at, fup_ne _ _ (by decide), mupd_at, fup_ne _ _ (by decide), mupd_at, fup_at]
    have n9 : mupd (mupd (mupd (mupd m1 53 7 0) 53 9 0) 53 2 0) 53 3 0 53 9 = 0 := by rw [mupd_at, fup_ne _ _ (by decide), mupd_at, fup_ne _ _ (by decide), mupd_at, fup_at]
    have n5 : mupd (mupd (mupd (mupd m1 53 7 0) 53 9 0) 53 2 0) 53 3 0 53 5 = 0 := by rw [mupd_at, fup_ne _ _ (by decide), mupd_at, fup_ne _ _ (by decide), mupd_at, fup_ne _ _ (by decide), mupd_at, fup_ne _ _ (by decide), e53, h5]
    generalize mupd (mupd (mupd (mupd m1 53 7 0) 53 9 0) 53 2 0) 53 3 0 = N at n7 n9 n5
    have l101 : ∀ (j i : Nat), i + j = 85 → ∀ m : mMem, K 101 [(0, vr 53), (1, vi 0), (2, vi (i : Int))] [] (S0, m) := by
      intro j
      induction j with
      | zero =>
        intro i hi m
        rw [show i = 85 by omega]
        exact q_M_text_101 hK 0 _ m (br_t (by decide) (rI_i rfl))
      | succ j ih =>
        intro i hi m
        have h4 := ih (i + 1) (by omega)
        have hz : ∃ z : Int, z = (i : Int) := ⟨_, rfl⟩
        obtain ⟨z, hz⟩ := hz
        have ez : ((i + 1 : Nat) : Int) = z + 1 := by omega
        rw [ez] at h4
        rw [← hz]
        have zb : 0 ≤ z ∧ z < 85 := by omega
        clear hz ez hi ih
        have ew : w32 (z + 1) = z + 1 := w32_s (by omega) (by omega)
        refine q_M_text_101 hK 0 _ m (br_f (by omega) ?_)
        rw [ew]
        exact mIn_i (by omega) (by omega) (mIn_i (by omega) (by omega) (h4 _))
    have l24 : ∀ (j i : Nat), i + j = 85 → ∀ m : mMem, m 53 = N 53 → K 24 [(0, vr 53), (1, vi 0), (2, vi (i : Int))] [] (S0, m) := by
      intro j
      induction j with
      | zero =>
        intro i hi m hm
        rw [show i = 85 by omega]
        have s7 : m 53 7 = 0 := by rw [hm, n7]
        have s9 : m 53 9 = 0 := by rw [hm, n9]
        have s5 : m 53 5 = 0 := by rw [hm, n5]
        have st : mN3 9 121 [vr 53] m (fun m' => m' 53 7 = 0 ∧ m' 53 11 = 0) := by
          refine mN3_i ⟨by decide, Nat.le_of_ble_eq_true rfl⟩ (fun K hK => q_M_step_0 hK m (br_t (by omega) (q_M_step_8 hK m ?_)))
          rw [s9]
          have b1 := R_byteAt 7 m 0 (by omega) (by omega)
          rw [if_pos (by omega)] at b1
          refine ⟨_, _, b1, br_t (by decide) ?_⟩
          have t9 : mupd m 53 10 0 53 9 = 0 := by rw [mupd_at, fup_ne _ _ (by decide), s9]
          have t5 : mupd m 53 10 0 53 5 = 0 := by rw [mupd_at, fup_ne _ _ (by decide), s5]
          have t7 : mupd m 53 10 0 53 7 = 0 := by rw [mupd_at, fup_ne _ _ (by decide), s7]
          rw [s9, t9]
          generalize mupd m 53 10 0 = m2 at t9 t5 t7
          have b2 := R_byteAt 7 m2 0 (by omega) (by omega)
          rw [if_pos (by omega)] at b2
          refine ⟨_, _, b2, br_f (fun q => q rfl) (rN_i ⟨?_, ?_⟩)⟩
          · rw [mupd_at, fup_ne _ _ (by decide), mupd_at, fup_ne _ _ (by decide), t7]
          · rw [mupd_at, fup_at]
        refine q_M_text_24 hK 0 _ m (br_t (by decide) (cN st (fun m' p => ?_)))
        refine q_M_text_47 hK 0 m' (br_f (fun q => q p.1) (br_t p.2 (q_M_text_71 hK 0 m' (br_t ?_ (l101 85 0 (by omega) _)))))
        rw [mupd_at, fup_ne _ _ (by decide), mupd_at, fup_ne _ _ (by decide), p.1]
        exact Int.le_refl _
      | succ j ih =>
        intro i hi m hm
        have h4 := ih (i + 1) (by omega)
        have hz : ∃ z : Int, z = (i : Int) := ⟨_, rfl⟩
        obtain ⟨z, hz⟩ := hz
        have ez : ((i + 1 : Nat) : Int) = z + 1 := by omega
        rw [ez] at h4
        rw [← hz]
        have zb : 0 ≤ z ∧ z < 85 := by omega
        clear hz ez hi ih
        have ew : w32 (z + 1) = z + 1 := w32_s (by omega) (by omega)
        refine q_M_text_24 hK 0 _ m (br_f (by omega) ?_)
        rw [ew]
        exact mIn_i (by omega) (by omega) (h4 _ (by rw [mupd_ne _ _ _ (by decide), hm]))
    exact l24 85 0 (by omega) N rfl
  obtain ⟨v2, m2, e2, r2⟩ := a2
  rw [e2] at r2
  exact ⟨0, m1, m2, r1, r2⟩
