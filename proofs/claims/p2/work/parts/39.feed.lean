/-! PURE PROOFS 17: feed -/
theorem P_feed {M : mMem} (h : Inv M) (x : Int) : PairI 45 116 [vi x] M := by
  have ht := h.2.2.2.2.1
  have hs := h.2.2.2.2.2.1
  have hh := h.2.2.2.2.2.2.1
  have ho := h.2.2.2.2.2.2.2.1
  have t1 : 0 ≤ M 35 1 ∧ M 35 1 ≤ 160 := ht.1
  have t2 : M 53 5 = M 35 1 := ht.2.1
  by_cases c : 0 ≤ x ∧ x ≤ 127
  · by_cases c2 : M 35 1 < 160
    · have w1 : w32 (M 35 1 + 1) = M 35 1 + 1 := w32_s (by omega) (by omega)
      have x1 : mupd M 36 (M 35 1) x 35 1 = M 35 1 := by rw [mupd_ne _ _ _ (by decide)]
      have a1 : mR3 10 45 [vr 0, vi x] (S0, M) (some (vi (M 35 1 + 1)), (S0, mupd (mupd M 36 (M 35 1) x) 35 1 (M 35 1 + 1))) := by
        refine ⟨⟨by decide, Nat.le_of_ble_eq_true rfl⟩, fun K hK => q_L_feed_0 hK x M (br_f (by omega) (br_t c.2 (br_t c2 (mIn_i (by omega) (by omega) ?_))))⟩
        rw [x1, w1]
        exact mret_i (by rw [mupd_at, fup_at]) rfl
      have e0 : ∀ k : Nat, k ≠ 36 → k ≠ 35 → mupd (mupd M 36 (M 35 1) x) 35 1 (M 35 1 + 1) k = M k := fun k h1 h2 => by rw [mupd_ne _ _ _ h2, mupd_ne _ _ _ h1]
      have f35 : mupd (mupd M 36 (M 35 1) x) 35 1 (M 35 1 + 1) 35 = fup (M 35) 1 (M 35 1 + 1) := by rw [mupd_at, mupd_ne _ _ _ (by decide)]
      have f36 : mupd (mupd M 36 (M 35 1) x) 35 1 (M 35 1 + 1) 36 = fup (M 36) (M 35 1) x := by rw [mupd_ne _ _ _ (by decide), mupd_at]
      generalize mupd (mupd M 36 (M 35 1) x) 35 1 (M 35 1 + 1) = m at a1 e0 f35 f36
      have y1 : m 53 5 = M 35 1 := by rw [e0 53 (by decide) (by decide)]; exact t2
      have y2 : mupd m 56 (M 35 1) x 53 5 = M 35 1 := by rw [mupd_ne _ _ _ (by decide)]; exact y1
      have a2 : mR3 10 116 [vr 53, vi x] (S0, m) (some (vi (M 35 1 + 1)), (S0, mupd (mupd m 56 (M 35 1) x) 53 5 (M 35 1 + 1))) := by
        refine ⟨⟨by decide, Nat.le_of_ble_eq_true rfl⟩, fun K hK => q_M_feed_0 hK x m ⟨_, _, R_in 8 m _ _ _, br_t (b2_n0.mpr (by omega)) (br_t (by omega) ?_)⟩⟩
        rw [y1, y2, w1]
        exact mIn_i (by omega) (by omega) (mret_i (by rw [mupd_at, fup_at]) rfl)
      refine ⟨_, _, _, a1, a2, ?_⟩
      have e : ∀ k : Nat, k ≠ 36 → k ≠ 35 → k ≠ 56 → k ≠ 53 → mupd (mupd m 56 (M 35 1) x) 53 5 (M 35 1 + 1) k = M k := fun k h1 h2 h3 h4 => by rw [mupd_ne _ _ _ h4, mupd_ne _ _ _ h3, e0 k h1 h2]
      have e35 : mupd (mupd m 56 (M 35 1) x) 53 5 (M 35 1 + 1) 35 = fup (M 35) 1 (M 35 1 + 1) := by rw [mupd_ne _ _ _ (by decide), mupd_ne _ _ _ (by decide), f35]
      have e36 : mupd (mupd m 56 (M 35 1) x) 53 5 (M 35 1 + 1) 36 = fup (M 36) (M 35 1) x := by rw [mupd_ne _ _ _ (by decide), mupd_ne _ _ _ (by decide), f36]
      have e56 : mupd (mupd m 56 (M 35 1) x) 53 5 (M 35 1 + 1) 56 = fup (M 56) (M 35 1) x := by rw [mupd_ne _ _ _ (by decide), mupd_at, e0 56 (by decide) (by decide)]
      have e53 : mupd (mupd m 56 (M 35 1) x) 53 5 (M 35 1 + 1) 53 = fup (M 53) 5 (M 35 1 + 1) := by rw [mupd_at, mupd_ne _ _ _ (by decide), e0 53 (by decide) (by decide)]
      refine Inv_ch h (fun k hk => e k (by omega) (by omega) (by omega) (by omega)) (fun i _ _ => by rw [e 54 (by decide) (by decide) (by decide) (by decide)]) ?_ ?_ (ShI_fr hh (fun k hk => e k (by omega) (by omega) (by omega) (by omega))) ?_
      · unfold TaI
        rw [e35, e53, e36, e56, fup_at, fup_at, fup_ne _ _ (show (2 : Int) ≠ 1 by decide), fup_ne _ _ (show (6 : Int) ≠ 5 by decide)]
        refine ⟨by omega, rfl, ht.2.2.1, fun i h0 h1 => ?_⟩
        by_cases z : i = M 35 1
        · rw [z, fup_at, fup_at]
          exact ⟨rfl, c⟩
        · rw [fup_ne _ _ z, fup_ne _ _ z]
          exact ht.2.2.2 i h0 (by omega)
      · exact SeI_fr hs (by rw [e 0 (by decide) (by decide) (by decide) (by decide)]) (by rw [e53, fup_ne _ _ (by decide)]) (e 60 (by decide) (by decide) (by decide) (by decide)) (e 40 (by decide) (by decide) (by decide) (by decide)) (e 41 (by decide) (by decide) (by decide) (by decide))
      · rw [e 0 (by decide) (by decide) (by decide) (by decide), e53, fup_ne _ _ (by decide)]
        exact ho
    · refine ⟨-3, M, M, ⟨⟨by decide, Nat.le_of_ble_eq_true rfl⟩, fun K hK => q_L_feed_0 hK x M (br_f (by omega) (br_t c.2 (br_f c2 (mret_i rfl rfl))))⟩, ⟨⟨by decide, Nat.le_of_ble_eq_true rfl⟩, fun K hK => q_M_feed_0 hK x M ⟨_, _, R_in 8 M _ _ _, br_t (b2_n0.mpr (by omega)) (br_f (fun z => z (by omega)) (mret_i rfl rfl))⟩⟩, h⟩
  · refine ⟨-1, M, M, ⟨⟨by decide, Nat.le_of_ble_eq_true rfl⟩, fun K hK => q_L_feed_0 hK x M ⟨fun _ => mret_i rfl rfl, fun q => br_f (by omega) (mret_i rfl rfl)⟩⟩, ⟨⟨by decide, Nat.le_of_ble_eq_true rfl⟩, fun K hK => q_M_feed_0 hK x M ⟨_, _, R_in 8 M _ _ _, br_f (fun z => c (b2_n0.mp z)) (mret_i rfl rfl)⟩⟩, h⟩
