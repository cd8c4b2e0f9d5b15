/-! PURE PROOFS 44: what fits, on the page -/
theorem M_fit (d : Nat) {M m : mMem} {H : Int → Int} {cn ns : Nat} (hg : Pg M 1 0) (hc : Cht M 1) (h4 : cn ≤ 4) (hH : ∀ i : Int, 0 ≤ i → i < cn → 0 ≤ H i ∧ H i < 36) (m54 : ∀ i : Int, 0 ≤ i → i < 85 → m 54 i = M 54 i) (h24 : m 53 24 = cn) (h61 : ∀ i : Int, 0 ≤ i → i < cn → m 61 i = H i) (hs : SeI M) (hn : M 0 13 = ns) (m22 : m 53 22 = M 53 22) (m60 : m 60 = M 60) (q : Int) : mI3 (d + 3) 176 [vr 53, vi q] m (fun v m' => v = seB M (fiF (M 2) H q cn) ns ∧ PgC m' M 340 (fiF (M 2) H q cn) (M 3) ∧ (∀ k : Nat, k ≠ 54 → m' k = m k) ∧ FrM m' m) := by
  have hp := Pg0_of hg
  have n6 : 0 ≤ M 0 13 ∧ M 0 13 ≤ 6 := hs.1
  have s22 : M 53 22 = M 0 13 := hs.2.1
  have b5 : 0 ≤ M 1 5 ∧ M 1 5 ≤ 5 := hc.2.1
  refine mI3_i ⟨by decide, Nat.le_of_ble_eq_true rfl⟩ (fun K hK => q_M_isFit_0 hK q m ⟨_, R_copies (d + 1) m 0 340 (by omega) (by omega) (by omega), ?_⟩)
  have l2 : ∀ m' : mMem, PgC m' M 340 (fiF (M 2) H q cn) (M 3) → (∀ k : Nat, k ≠ 54 → m' k = m k) → FrM m' m → ∀ (j i : Nat), i + j = ns → ∀ s : Int, s = seB M (fiF (M 2) H q cn) i → K 50 [(0, vr 53), (2, vi s), (3, vi (i : Int))] [] (S0, m') := by
    intro m' h1 h2 h3 j
    have e22 : m' 53 22 = M 0 13 := by rw [h2 53 (by decide), m22, s22]
    have e60 : m' 60 = M 60 := by rw [h2 60 (by decide), m60]
    have e39 : m' 54 39 = M 1 5 := by rw [h3.2.2.2.2.2 39 (by decide) (by decide), m54 39 (by decide) (by decide), hp.2.2.1]
    induction j with
    | zero =>
      intro i hi s hs'
      rw [show i = ns by omega] at hs' ⊢
      have b := seB_01 M (fiF (M 2) H q cn) ns
      exact q_M_isFit_50 hK _ _ m' (br_t (by rw [e22, hn]; exact Int.le_refl _) (mBo_i (by rw [hs']; exact b) (rI_i ⟨hs', h1, h2, h3⟩)))
    | succ j ih =>
      intro i hi s hs'
      have h5 := ih (i + 1) (by omega)
      have b := seB_01 M (fiF (M 2) H q cn) i
      rw [seB_s, ← hs'] at h5
      rw [← hs'] at b
      have g := hs.2.2 (i : Int) (by omega) (by omega)
      have hz : ∃ z : Int, z = (i : Int) := ⟨_, rfl⟩
      obtain ⟨z, hz⟩ := hz
      have ez : ((i + 1 : Nat) : Int) = z + 1 := by omega
      rw [ez, ← hz] at h5
      rw [← hz] at g
      rw [← hz]
      have zb : 0 ≤ z ∧ z < M 0 13 := by omega
      clear hz ez hi ih hs'
      have ew : w32 (z + 1) = z + 1 := w32_s (by omega) (by omega)
      have w2 : w32 (2 * z) = 2 * z := w32_s (by omega) (by omega)
      have w3 : w32 (2 * z + 1) = 2 * z + 1 := w32_s (by omega) (by omega)
      have g1 : (0 ≤ M 40 z ∧ M 40 z ≤ 4) := g.2.2.1
      have g0 : M 60 (2 * z) = M 40 z := g.1
      have g2 : M 60 (2 * z + 1) = M 41 z := g.2.1
      refine q_M_isFit_50 hK _ _ m' (br_f (by rw [e22]; omega) ?_)
      rw [e60, ew, w2, w3, g0]
      refine ⟨fun y => ?_, fun y => ?_⟩
      · refine h5 0 ?_
        rw [if_neg (by omega)]
      · have y : s = 1 := by omega
        refine mIn_i (by omega) (by omega) ⟨_, _, R_mIsLaw d m' _ (by rw [e39]; exact b5), fun y2 => ?_, fun y2 => ?_⟩
        · have y2 := b2_0.mp y2
          rw [e39] at y2
          refine h5 0 ?_
          rw [if_neg (by omega)]
        · have y2 := b2_n0.mp y2
          rw [e39] at y2
          rw [e60, g0]
          refine mIn_i (by omega) (by omega) ⟨_, _, G_reads d h1 (by omega) hc y2, ?_⟩
          rw [e60, g2]
          refine mIn_i (by omega) (by omega) ⟨fun y3 => ?_, fun y3 => ?_⟩
          · refine h5 0 ?_
            rw [if_neg (fun w => y3 w.2.2)]
          · refine h5 1 ?_
            rw [if_pos ⟨y, y2.2, Decidable.not_not.mp y3⟩]
  have l1 : ∀ (j i : Nat), i + j = cn → ∀ m' : mMem, PgC m' M 340 (fiF (M 2) H q i) (M 3) → (∀ k : Nat, k ≠ 54 → m' k = m k) → FrM m' m → K 10 [(0, vr 53), (1, vi q), (2, vi (i : Int))] [] (S0, m') := by
    intro j
    induction j with
    | zero =>
      intro i hi m' h1 h2 h3
      have e24 : m' 53 24 = cn := by rw [h2 53 (by decide), h24]
      rw [show i = cn by omega] at h1 ⊢
      exact q_M_isFit_10 hK _ _ m' (br_t (by rw [e24]; exact Int.le_refl _) (l2 m' h1 h2 h3 ns 0 (by omega) 1 rfl))
    | succ j ih =>
      intro i hi m' h1 h2 h3
      have h5 := ih (i + 1) (by omega)
      have e24 : m' 53 24 = cn := by rw [h2 53 (by decide), h24]
      rw [fiF_s] at h5
      have hz : ∃ z : Int, z = (i : Int) := ⟨_, rfl⟩
      obtain ⟨z, hz⟩ := hz
      have ez : ((i + 1 : Nat) : Int) = z + 1 := by omega
      rw [ez, ← hz] at h5
      rw [← hz]
      have zb : 0 ≤ z ∧ z < cn ∧ z < 4 := by omega
      generalize fiF (M 2) H q i = g' at h1 h5
      clear hz ez hi ih
      have ew : w32 (z + 1) = z + 1 := w32_s (by omega) (by omega)
      have e61 : m' 61 z = H z := by rw [h2 61 (by decide), h61 _ (by omega) (by omega)]
      have hb := hH z (by omega) (by omega)
      have w1 : w32 (340 + H z) = 340 + H z := w32_s (by omega) (by omega)
      refine q_M_isFit_10 hK _ _ m' (br_f (by rw [e24]; omega) ?_)
      rw [e61, ew, w1]
      refine mIn_i (by omega) (by omega) (mIn_i (by omega) (by omega) (h5 _ (G_set h1 hc hb) (fun k hk => ?_) (FrM_set h3 (by omega))))
      rw [mupd_ne _ _ _ hk, h2 k hk]
  exact l1 cn 0 (by omega) _ (G_copy hg hc m54) (fun k hk => mcpy_ne _ _ _ _ _ hk) (FrM_cpy (FrM_refl m) (by decide))
