/-! PURE PROOFS 34: the plan gone through on the page -/
theorem M_plan (d : Nat) {M m : mMem} (hg : Pg M 1 0) (hc : Cht M 1) (e : ∀ i : Int, 0 ≤ i → i < 85 → m 54 i = M 54 i) (but : Int) {n : Nat} (hn : M 1 6 = n) : mN3 (d + 2) 155 [vr 53, vi but] m (fun m' => PgC m' M 340 (plM M but n).1 (plM M but n).2.1 ∧ m' 53 15 = (plM M but n).2.2.1 ∧ m' 53 16 = (plM M but n).2.2.2 ∧ m' 53 17 = m 53 17 ∧ FrM m' m) := by
  have n8 : 0 ≤ M 1 6 ∧ M 1 6 ≤ 8 := hc.2.2.2.1
  have hp := Pg0_of hg
  refine mN3_i ⟨by decide, Nat.le_of_ble_eq_true rfl⟩ (fun K hK => ?_)
  have loop : ∀ (j i : Nat), i + j = n → ∀ m' : mMem, PgC m' M 340 (plM M but i).1 (plM M but i).2.1 → m' 53 15 = (plM M but i).2.2.1 → m' 53 16 = (plM M but i).2.2.2 → (0 ≤ m' 53 15 ∧ m' 53 15 ≤ i) → m' 53 17 = m 53 17 → FrM m' m → K 21 [(0, vr 53), (1, vi but), (2, vi (i : Int))] [] (S0, m') := by
    intro j
    induction j with
    | zero =>
      intro i hi m' h1 h2 h3 h4 h6 h5
      have f60 : m' 54 60 = M 1 6 := by rw [h5.2.2.2.2.2 60 (by decide) (by decide), e 60 (by decide) (by decide), hp.2.2.2.2.1]
      rw [show i = n by omega] at h1 h2 h3
      exact q_M_planGoes_21 hK _ _ m' (br_t (by omega) (rN_i ⟨h1, h2, h3, h6, h5⟩))
    | succ j ih =>
      intro i hi m' h1 h2 h3 h4 h6 h5
      have pg : ∀ x : Int, 0 ≤ x → x < 85 → m' 54 x = M 54 x := fun x a b => by rw [h5.2.2.2.2.2 x a (by omega), e x a b]
      have f60 : m' 54 60 = M 1 6 := by rw [pg 60 (by decide) (by decide), hp.2.2.2.2.1]
      have ps := plM_s M but i
      have ih := fun a b c d e f g => ih (i + 1) a b c d e f g
      have hz : ∃ z : Int, z = (i : Int) := ⟨_, rfl⟩
      obtain ⟨z, hz⟩ := hz
      have ez : ((i + 1 : Nat) : Int) = z + 1 := by omega
      rw [ez] at ih
      rw [← hz] at ps h4 ⊢
      generalize plM M but (i + 1) = r' at ps ih
      generalize plM M but i = r at ps h1 h2 h3
      have zb : 0 ≤ z ∧ z < M 1 6 := by omega
      have hj : i + 1 + j = n := by omega
      clear hz ez hi
      have ew : w32 (z + 1) = z + 1 := w32_s (by omega) (by omega)
      have i1 : w32 (61 + w32 (3 * z)) = 61 + 3 * z := by rw [w32_s (z := 3 * z) (by omega) (by omega), w32_s (by omega) (by omega)]
      have i2 : w32 (61 + 3 * z + 1) = 62 + 3 * z := by
        rw [w32_s (by omega) (by omega)]
        omega
      have i3 : w32 (61 + 3 * z + 2) = 63 + 3 * z := by
        rw [w32_s (by omega) (by omega)]
        omega
      have pr : (0 ≤ M 5 z ∧ M 5 z < 36) ∧ 1 ≤ M 6 z ∧ M 6 z ≤ 3 := hc.2.2.2.2.1 z zb.1 zb.2
      have g : 6 * M 54 (61 + 3 * z) + M 54 (62 + 3 * z) = M 5 z ∧ (0 ≤ M 54 (62 + 3 * z) ∧ M 54 (62 + 3 * z) < 6) ∧ M 54 (63 + 3 * z) = M 6 z := hp.2.2.2.2.2 z zb.1 zb.2
      have i4 : w32 (w32 (6 * M 54 (61 + 3 * z)) + M 54 (62 + 3 * z)) = M 5 z := by
        rw [w32_s (z := 6 * M 54 (61 + 3 * z)) (by omega) (by omega), w32_s (by omega) (by omega)]
        exact g.1
      refine q_M_planGoes_21 hK _ _ m' (br_f (by omega) ⟨fun q => ?_, fun q => ?_⟩)
      · rw [if_pos q] at ps
        rw [ew]
        refine ih hj m' ?_ ?_ ?_ (by omega) h6 h5
        · rw [ps]
          exact h1
        · rw [ps]
          exact h2
        · rw [ps]
          exact h3
      · rw [if_neg q] at ps
        rw [ew, i1, i2, i3, pg (61 + 3 * z) (by omega) (by omega), pg (62 + 3 * z) (by omega) (by omega), pg (63 + 3 * z) (by omega) (by omega), i4, g.2.2]
        have st := G_stitch d h1 (by omega) pr.1 pr.2
        refine mIn_i (by omega) (by omega) (mIn_i (by omega) (by omega) (mIn_i (by omega) (by omega) ⟨_, _, st, ?_⟩))
        by_cases c : r.1 (M 5 z) = 0 ∧ 0 < r.2.1 (M 6 z)
        · rw [if_pos c]
          rw [if_pos c] at ps
          refine br_f (fun w => b2_0.mp w c) ?_
          have s53 : stM m' 340 (M 5 z) (M 6 z) 53 = m' 53 := stM_ne _ _ _ _ (by decide)
          rw [s53, w32_s (z := m' 53 15 + 1) (by omega) (by omega)]
          have qx : ∀ x : Int, x ≠ 15 → mupd (stM m' 340 (M 5 z) (M 6 z)) 53 15 (m' 53 15 + 1) 53 x = m' 53 x := fun x hx => by rw [mupd_at, fup_ne _ _ hx, s53]
          have q15 : mupd (stM m' 340 (M 5 z) (M 6 z)) 53 15 (m' 53 15 + 1) 53 15 = m' 53 15 + 1 := by rw [mupd_at, fup_at]
          refine ih hj _ ?_ ?_ ?_ (by rw [q15]; omega) (by rw [qx 17 (by decide), h6]) (FrM_53 (FrM_st h5 (by decide) pr.1.1 (by omega)) (by decide) (by decide) (by decide) (by decide))
          · rw [ps]
            exact G_eq (G_st h1 hc pr.1 pr.2 c.2) hc (fun x _ _ => by rw [mupd_ne _ _ _ (by decide)])
          · rw [ps, q15, h2]
          · rw [ps, qx 16 (by decide), h3]
        · rw [if_neg c]
          rw [if_neg c] at ps
          refine br_t (b2_f c) ⟨fun w => ?_, fun w => ?_⟩
          · rw [if_neg (by rw [← h3]; exact w)] at ps
            have qx : ∀ x : Int, mupd m' 53 16 (m' 53 16) 53 x = m' 53 x := fun x => by
              rw [mupd_at]
              unfold fup
              split
              · rename_i w
                rw [w]
              · rfl
            refine ih hj _ ?_ ?_ ?_ (by rw [qx 15]; omega) (by rw [qx 17, h6]) (FrM_53 h5 (by decide) (by decide) (by decide) (by decide))
            · rw [ps]
              exact G_eq h1 hc (fun x _ _ => by rw [mupd_ne _ _ _ (by decide)])
            · rw [ps, qx 15, h2]
            · rw [ps, qx 16, h3]
          · have w := Decidable.not_not.mp w
            rw [if_pos (by rw [← h3]; exact w)] at ps
            have qx : ∀ x : Int, x ≠ 16 → mupd m' 53 16 z 53 x = m' 53 x := fun x hx => by rw [mupd_at, fup_ne _ _ hx]
            refine ih hj _ ?_ ?_ ?_ (by rw [qx 15 (by decide)]; omega) (by rw [qx 17 (by decide), h6]) (FrM_53 h5 (by decide) (by decide) (by decide) (by decide))
            · rw [ps]
              exact G_eq h1 hc (fun x _ _ => by rw [mupd_ne _ _ _ (by decide)])
            · rw [ps, qx 15 (by decide), h2]
            · rw [ps, mupd_at, fup_at]
  refine q_M_planGoes_0 hK but m ⟨_, R_copies d m 0 340 (by omega) (by omega) (by omega), ?_⟩
  have tc := G_copy (p := 340) hg hc e
  have c53 : mcpy m 54 0 54 340 85 53 = m 53 := mcpy_ne _ _ _ _ _ (by decide)
  have q16 : mupd (mupd (mcpy m 54 0 54 340 85) 53 15 0) 53 16 (-4) 53 16 = -4 := by rw [mupd_at, fup_at]
  have q15 : mupd (mupd (mcpy m 54 0 54 340 85) 53 15 0) 53 16 (-4) 53 15 = 0 := by rw [mupd_at, fup_ne _ _ (by decide), mupd_at, fup_at]
  refine loop n 0 (by omega) _ (G_eq tc hc (fun x _ _ => ?_)) q15 q16 (by rw [q15]; omega) ?_ (FrM_53 (FrM_53 (FrM_cpy (FrM_refl m) (by decide)) (by decide) (by decide) (by decide) (by decide)) (by decide) (by decide) (by decide) (by decide))
  · rw [mupd_ne _ _ _ (by decide), mupd_ne _ _ _ (by decide)]
  · rw [mupd_at, fup_ne _ _ (by decide), mupd_at, fup_ne _ _ (by decide), c53]
