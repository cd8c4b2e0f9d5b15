section
/-! PURE PROOFS 21: plan, enact -/
theorem P_plan {M : mMem} (h : Inv M) (x y z : Int) : PairI 56 145 [vi x, vi y, vi z] M := by
  have hc := h.1
  have hp := Pg0_of h.2.1
  have n0 : 0 ≤ M 1 6 ∧ M 1 6 ≤ 8 := hc.2.2.2.1
  have p5 : M 54 60 = M 1 6 := hp.2.2.2.2.1
  by_cases c : (0 ≤ x ∧ x < 6 ∧ 0 ≤ y ∧ y < 6) ∧ 1 ≤ z ∧ z ≤ 3
  · by_cases c2 : M 1 6 < 8
    · have w1 : w32 (M 1 6 + 1) = M 1 6 + 1 := w32_s (by omega) (by omega)
      have x1 : mupd M 5 (M 1 6) (6 * x + y) 1 6 = M 1 6 := by rw [mupd_ne _ _ _ (by decide)]
      have x2 : mupd (mupd M 5 (M 1 6) (6 * x + y)) 6 (M 1 6) z 1 6 = M 1 6 := by rw [mupd_ne _ _ _ (by decide), x1]
      have a1 : mR3 10 56 [vr 0, vi x, vi y, vi z] (S0, M) (some (vi (M 1 6 + 1)), (S0, mupd (mupd (mupd M 5 (M 1 6) (6 * x + y)) 6 (M 1 6) z) 1 6 (M 1 6 + 1))) := by
        refine ⟨⟨by decide, Nat.le_of_ble_eq_true rfl⟩, fun K hK => q_L_plan_0 hK x y z M ⟨_, _, R_isCell 8 M x y, br_f (fun q => b2_0.mp q c.1) ⟨_, _, R_isColour 8 M z, br_t (b2_n0.mpr c.2) (br_t c2 ⟨_, _, R_place 8 M (x := x) (y := y) (by omega) (by omega), mIn_i (by omega) (by omega) ?_⟩)⟩⟩⟩
        rw [x1, x2, w1]
        exact mIn_i (by omega) (by omega) (mret_i (by rw [mupd_at, fup_at]) rfl)
      have e0 : ∀ k : Nat, k ≠ 1 → k ≠ 5 → k ≠ 6 → mupd (mupd (mupd M 5 (M 1 6) (6 * x + y)) 6 (M 1 6) z) 1 6 (M 1 6 + 1) k = M k := fun k h1 h2 h3 => by rw [mupd_ne _ _ _ h1, mupd_ne _ _ _ h3, mupd_ne _ _ _ h2]
      have f1 : mupd (mupd (mupd M 5 (M 1 6) (6 * x + y)) 6 (M 1 6) z) 1 6 (M 1 6 + 1) 1 = fup (M 1) 6 (M 1 6 + 1) := by rw [mupd_at, mupd_ne _ _ _ (by decide), mupd_ne _ _ _ (by decide)]
      have f5 : mupd (mupd (mupd M 5 (M 1 6) (6 * x + y)) 6 (M 1 6) z) 1 6 (M 1 6 + 1) 5 = fup (M 5) (M 1 6) (6 * x + y) := by rw [mupd_ne _ _ _ (by decide), mupd_ne _ _ _ (by decide), mupd_at]
      have f6 : mupd (mupd (mupd M 5 (M 1 6) (6 * x + y)) 6 (M 1 6) z) 1 6 (M 1 6 + 1) 6 = fup (M 6) (M 1 6) z := by rw [mupd_ne _ _ _ (by decide), mupd_at, mupd_ne _ _ _ (by decide)]
      generalize mupd (mupd (mupd M 5 (M 1 6) (6 * x + y)) 6 (M 1 6) z) 1 6 (M 1 6 + 1) = m at a1 e0 f1 f5 f6
      generalize hn : M 1 6 = n at *
      have y1 : m 54 60 = n := by
        rw [e0 54 (by decide) (by decide) (by decide)]
        exact p5
      have i1 : w32 (61 + w32 (3 * n)) = 61 + 3 * n := by rw [w32_s (z := 3 * n) (by omega) (by omega), w32_s (by omega) (by omega)]
      have i2 : w32 (61 + 3 * n + 1) = 62 + 3 * n := by
        rw [w32_s (by omega) (by omega)]
        omega
      have i3 : w32 (61 + 3 * n + 2) = 63 + 3 * n := by
        rw [w32_s (by omega) (by omega)]
        omega
      have y2 : mupd (mupd (mupd m 54 (61 + 3 * n) x) 54 (62 + 3 * n) y) 54 (63 + 3 * n) z 54 60 = n := by
        rw [mupd_at, fup_ne _ _ (by omega), mupd_at, fup_ne _ _ (by omega), mupd_at, fup_ne _ _ (by omega)]
        exact y1
      have a2 : mR3 10 145 [vr 53, vi x, vi y, vi z] (S0, m) (some (vi (n + 1)), (S0, mupd (mupd (mupd (mupd m 54 (61 + 3 * n) x) 54 (62 + 3 * n) y) 54 (63 + 3 * n) z) 54 60 (n + 1))) := by
        refine ⟨⟨by decide, Nat.le_of_ble_eq_true rfl⟩, fun K hK => q_M_plan_0 hK x y z m ⟨_, _, R_mIsCell 7 m x y, br_f (fun q => b2_0.mp q c.1) ⟨_, _, R_mIsColour 7 m z, br_t (b2_n0.mpr c.2) (br_t (by omega) ?_)⟩⟩⟩
        rw [y1, i1, i2, i3, y2, w1]
        exact mIn_i (by omega) (by omega) (mIn_i (by omega) (by omega) (mIn_i (by omega) (by omega) (mret_i (by rw [mupd_at, fup_at]) rfl)))
      refine ⟨_, _, _, a1, a2, ?_⟩
      have e : ∀ k : Nat, k ≠ 1 → k ≠ 5 → k ≠ 6 → k ≠ 54 → mupd (mupd (mupd (mupd m 54 (61 + 3 * n) x) 54 (62 + 3 * n) y) 54 (63 + 3 * n) z) 54 60 (n + 1) k = M k := fun k h1 h2 h3 h4 => by rw [mupd_ne _ _ _ h4, mupd_ne _ _ _ h4, mupd_ne _ _ _ h4, mupd_ne _ _ _ h4, e0 k h1 h2 h3]
      have d : ∀ k : Nat, k ≠ 54 → mupd (mupd (mupd (mupd m 54 (61 + 3 * n) x) 54 (62 + 3 * n) y) 54 (63 + 3 * n) z) 54 60 (n + 1) k = m k := fun k h4 => by rw [mupd_ne _ _ _ h4, mupd_ne _ _ _ h4, mupd_ne _ _ _ h4, mupd_ne _ _ _ h4]
      have f54 : mupd (mupd (mupd (mupd m 54 (61 + 3 * n) x) 54 (62 + 3 * n) y) 54 (63 + 3 * n) z) 54 60 (n + 1) 54 = fup (fup (fup (fup (M 54) (61 + 3 * n) x) (62 + 3 * n) y) (63 + 3 * n) z) 60 (n + 1) := by rw [mupd_at, mupd_at, mupd_at, mupd_at, e0 54 (by decide) (by decide) (by decide)]
      generalize mupd (mupd (mupd (mupd m 54 (61 + 3 * n) x) 54 (62 + 3 * n) y) 54 (63 + 3 * n) z) 54 60 (n + 1) = m' at e d f54
      have u1 : m' 1 = fup (M 1) 6 (n + 1) := by rw [d 1 (by decide), f1]
      have u5 : m' 5 = fup (M 5) n (6 * x + y) := by rw [d 5 (by decide), f5]
      have u6 : m' 6 = fup (M 6) n z := by rw [d 6 (by decide), f6]
      have v5 : m' 1 5 = M 1 5 := by rw [u1, fup_ne _ _ (by decide)]
      have v6 : m' 1 6 = n + 1 := by rw [u1, fup_at]
      have far : ∀ i : Int, (i < 60 ∨ 85 ≤ i) → m' 54 i = M 54 i := fun i hi => by rw [f54, fup_ne _ _ (by omega), fup_ne _ _ (by omega), fup_ne _ _ (by omega), fup_ne _ _ (by omega)]
      refine Inv_c1 h (Cht_mk hc (e 2 (by decide) (by decide) (by decide) (by decide)) (e 7 (by decide) (by decide) (by decide) (by decide)) (e 8 (by decide) (by decide) (by decide) (by decide)) ?_ ?_ ?_ ?_ ?_) (Pg_of0 ?_) (fun k h1 h2 => e k (by omega) (by omega) (by omega) h2) (fun i h0 h1 => far i (by omega))
      · rw [v5]
        exact hc.2.1
      · rw [v5, e (1 + 3) (by decide) (by decide) (by decide) (by decide)]
        exact hc.2.2.1
      · rw [v6]
        omega
      · show planOK (m' 5) (m' 6) (m' 1 6)
        rw [v6, u5, u6]
        intro i h0 h1
        by_cases q : i = n
        · rw [q, fup_at, fup_at]
          omega
        · rw [fup_ne _ _ q, fup_ne _ _ q]
          exact hc.2.2.2.2.1 i h0 (by omega)
      · rw [e (1 + 2) (by decide) (by decide) (by decide) (by decide)]
        exact hc.2.2.2.2.2
      · unfold Pg0
        rw [v5, v6, u5, u6, e 2 (by decide) (by decide) (by decide) (by decide), e 3 (by decide) (by decide) (by decide) (by decide), e 4 (by decide) (by decide) (by decide) (by decide)]
        refine ⟨fun i h0 h1 => ?_, fun i h0 h1 => ?_, ?_, fun l' q h0 h1 h2 h3 => ?_, ?_, fun i h0 h1 => ?_⟩
        · rw [far _ (by omega)]
          exact hp.1 i h0 h1
        · rw [far _ (by omega)]
          exact hp.2.1 i h0 h1
        · rw [far _ (by omega)]
          exact hp.2.2.1
        · have b5 : 0 ≤ M 1 5 ∧ M 1 5 ≤ 5 := hc.2.1
          rw [far _ (by omega)]
          exact hp.2.2.2.1 l' q h0 h1 h2 h3
        · rw [f54, fup_at]
        · by_cases q : i = n
          · have t1 : m' 54 (61 + 3 * n) = x := by rw [f54, fup_ne _ _ (by omega), fup_ne _ _ (by omega), fup_ne _ _ (by omega), fup_at]
            have t2 : m' 54 (62 + 3 * n) = y := by rw [f54, fup_ne _ _ (by omega), fup_ne _ _ (by omega), fup_at]
            have t3 : m' 54 (63 + 3 * n) = z := by rw [f54, fup_ne _ _ (by omega), fup_at]
            rw [q, fup_at, fup_at, t1, t2, t3]
            exact ⟨rfl, by omega, rfl⟩
          · have t : ∀ j : Int, 60 < j → j < 61 + 3 * n → m' 54 j = M 54 j := fun j q0 q1 => by rw [f54, fup_ne _ _ (by omega), fup_ne _ _ (by omega), fup_ne _ _ (by omega), fup_ne _ _ (by omega)]
            rw [fup_ne _ _ q, fup_ne _ _ q, t _ (by omega) (by omega), t (62 + 3 * i) (by omega) (by omega), t (63 + 3 * i) (by omega) (by omega)]
            exact hp.2.2.2.2.2 i h0 (by omega)
    · refine ⟨-3, M, M, ⟨⟨by decide, Nat.le_of_ble_eq_true rfl⟩, fun K hK => q_L_plan_0 hK x y z M ⟨_, _, R_isCell 8 M x y, br_f (fun q => b2_0.mp q c.1) ⟨_, _, R_isColour 8 M z, br_t (b2_n0.mpr c.2) (br_f c2 (mret_i rfl rfl))⟩⟩⟩, ⟨⟨by decide, Nat.le_of_ble_eq_true rfl⟩, fun K hK => q_M_plan_0 hK x y z M ⟨_, _, R_mIsCell 7 M x y, br_f (fun q => b2_0.mp q c.1) ⟨_, _, R_mIsColour 7 M z, br_t (b2_n0.mpr c.2) (br_f (fun q => q (by omega)) (mret_i rfl rfl))⟩⟩⟩, h⟩
  · refine ⟨-1, M, M, ⟨⟨by decide, Nat.le_of_ble_eq_true rfl⟩, fun K hK => q_L_plan_0 hK x y z M ⟨_, _, R_isCell 8 M x y, ⟨fun _ => mret_i rfl rfl, fun q => ⟨_, _, R_isColour 8 M z, br_f (fun q2 => c ⟨b2_n0.mp q, b2_n0.mp q2⟩) (mret_i rfl rfl)⟩⟩⟩⟩, ⟨⟨by decide, Nat.le_of_ble_eq_true rfl⟩, fun K hK => q_M_plan_0 hK x y z M ⟨_, _, R_mIsCell 7 M x y, ⟨fun _ => mret_i rfl rfl, fun q => ⟨_, _, R_mIsColour 7 M z, br_f (fun q2 => c ⟨b2_n0.mp q, b2_n0.mp q2⟩) (mret_i rfl rfl)⟩⟩⟩⟩, h⟩
theorem P_enact {M : mMem} (h : Inv M) (x y z w : Int) : PairI 58 147 [vi x, vi y, vi z, vi w] M := by
  have hc := h.1
  have hp := Pg0_of h.2.1
  have n0 : 0 ≤ M 1 5 ∧ M 1 5 ≤ 5 := hc.2.1
  have p3 : M 54 39 = M 1 5 := hp.2.2.1
  by_cases c : (0 ≤ x ∧ x ≤ 3) ∧ (1 ≤ y ∧ y ≤ 3) ∧ (1 ≤ z ∧ z ≤ 3) ∧ 1 ≤ w ∧ w ≤ 9
  · by_cases c2 : M 1 5 < 5
    · have w1 : w32 (M 1 5 + 1) = M 1 5 + 1 := w32_s (by omega) (by omega)
      have ch := alM_cht (kd := x) (a := y) (c := z) (w := w) hc c2 c.1 c.2.1 c.2.2.1 c.2.2.2
      have a1 : mR3 10 58 [vr 0, vi x, vi y, vi z, vi w] (S0, M) (some (vi (M 1 5 + 1)), (S0, alM M 1 x y z w)) := by
        refine ⟨⟨by decide, Nat.le_of_ble_eq_true rfl⟩, fun K hK => q_L_enact_0 hK x y z w M ⟨_, _, R_isLawPart 7 M 0 x, br_f (fun q => b2_0.mp q (by omega)) ⟨_, _, R_isLawPart 7 M 1 y, br_f (fun q => b2_0.mp q (by omega)) ⟨_, _, R_isLawPart 7 M 2 z, br_f (fun q => b2_0.mp q (by omega)) ⟨_, _, R_isLawPart 7 M 3 w, br_t (b2_n0.mpr (by omega)) (br_t c2 ⟨_, R_addLaw 8 M 1 (by omega) x y z w ⟨n0.1, c2⟩, ?_⟩)⟩⟩⟩⟩⟩
        exact mret_i (by rw [alM_0, fup_at]) rfl
      have e0 : ∀ k : Nat, k ≠ 1 → k ≠ 4 → alM M 1 x y z w k = M k := fun k h1 h2 => alM_ne M 1 x y z w h1 h2
      have f1 : alM M 1 x y z w 1 = fup (M 1) 5 (M 1 5 + 1) := alM_0 M 1 x y z w
      have f4 : alM M 1 x y z w 4 = fup (fup (fup (fup (M 4) (4 * M 1 5) x) (4 * M 1 5 + 1) y) (4 * M 1 5 + 2) z) (4 * M 1 5 + 3) w := alM_3 M 1 x y z w
      generalize alM M 1 x y z w = m at a1 e0 f1 f4 ch
      generalize hn : M 1 5 = n at *
      have y1 : m 54 39 = n := by
        rw [e0 54 (by decide) (by decide)]
        exact p3
      have i1 : w32 (40 + n) = 40 + n := w32_s (by omega) (by omega)
      have i2 : w32 (45 + n) = 45 + n := w32_s (by omega) (by omega)
      have i3 : w32 (50 + n) = 50 + n := w32_s (by omega) (by omega)
      have i4 : w32 (55 + n) = 55 + n := w32_s (by omega) (by omega)
      have y2 : mupd (mupd (mupd (mupd m 54 (40 + n) x) 54 (45 + n) y) 54 (50 + n) z) 54 (55 + n) w 54 39 = n := by
        rw [mupd_at, fup_ne _ _ (by omega), mupd_at, fup_ne _ _ (by omega), mupd_at, fup_ne _ _ (by omega), mupd_at, fup_ne _ _ (by omega)]
        exact y1
      have a2 : mR3 10 147 [vr 53, vi x, vi y, vi z, vi w] (S0, m) (some (vi (n + 1)), (S0, mupd (mupd (mupd (mupd (mupd m 54 (40 + n) x) 54 (45 + n) y) 54 (50 + n) z) 54 (55 + n) w) 54 39 (n + 1))) := by
        refine ⟨⟨by decide, Nat.le_of_ble_eq_true rfl⟩, fun K hK => q_M_enact_0 hK x y z w m ⟨_, _, R_in 8 _ _ _ _, br_f (fun q => b2_0.mp q (by omega)) ⟨_, _, R_mIsColour 7 m y, br_f (fun q => b2_0.mp q c.2.1) ⟨_, _, R_mIsColour 7 m z, br_f (fun q => b2_0.mp q c.2.2.1) ⟨_, _, R_in 8 _ _ _ _, br_t (b2_n0.mpr (by omega)) (br_t (by omega) ?_)⟩⟩⟩⟩⟩
        rw [y1, i1, i2, i3, i4, y2, w1]
        exact mIn_i (by omega) (by omega) (mIn_i (by omega) (by omega) (mIn_i (by omega) (by omega) (mIn_i (by omega) (by omega) (mret_i (by rw [mupd_at, fup_at]) rfl))))
      refine ⟨_, _, _, a1, a2, ?_⟩
      have d : ∀ k : Nat, k ≠ 54 → mupd (mupd (mupd (mupd (mupd m 54 (40 + n) x) 54 (45 + n) y) 54 (50 + n) z) 54 (55 + n) w) 54 39 (n + 1) k = m k := fun k h4 => by rw [mupd_ne _ _ _ h4, mupd_ne _ _ _ h4, mupd_ne _ _ _ h4, mupd_ne _ _ _ h4, mupd_ne _ _ _ h4]
      have f54 : mupd (mupd (mupd (mupd (mupd m 54 (40 + n) x) 54 (45 + n) y) 54 (50 + n) z) 54 (55 + n) w) 54 39 (n + 1) 54 = fup (fup (fup (fup (fup (M 54) (40 + n) x) (45 + n) y) (50 + n) z) (55 + n) w) 39 (n + 1) := by rw [mupd_at, mupd_at, mupd_at, mupd_at, mupd_at, e0 54 (by decide) (by decide)]
      generalize mupd (mupd (mupd (mupd (mupd m 54 (40 + n) x) 54 (45 + n) y) 54 (50 + n) z) 54 (55 + n) w) 54 39 (n + 1) = m' at d f54
      have far : ∀ i : Int, (i < 39 ∨ 60 ≤ i) → m' 54 i = M 54 i := fun i hi => by rw [f54, fup_ne _ _ (by omega), fup_ne _ _ (by omega), fup_ne _ _ (by omega), fup_ne _ _ (by omega), fup_ne _ _ (by omega)]
      have u1 : m' 1 = fup (M 1) 5 (n + 1) := by rw [d 1 (by decide), f1]
      have u4 : m' 4 = fup (fup (fup (fup (M 4) (4 * n) x) (4 * n + 1) y) (4 * n + 2) z) (4 * n + 3) w := by rw [d 4 (by decide), f4]
      have v5 : m' 1 5 = n + 1 := by rw [u1, fup_at]
      have v6 : m' 1 6 = M 1 6 := by rw [u1, fup_ne _ _ (by decide)]
      have e : ∀ k : Nat, k ≠ 1 → k ≠ 4 → k ≠ 54 → m' k = M k := fun k h1 h2 h3 => by rw [d k h3, e0 k h1 h2]
      refine Inv_c1 h (Cht_eq ch (fun k h0 h1 => d k (by omega))) (Pg_of0 ?_) (fun k h1 h2 => e k (by omega) (by omega) h2) (fun i h0 h1 => far i (by omega))
      unfold Pg0
      rw [v5, v6, u4, e 2 (by decide) (by decide) (by decide), e 3 (by decide) (by decide) (by decide), e 5 (by decide) (by decide) (by decide), e 6 (by decide) (by decide) (by decide)]
      refine ⟨fun i h0 h1 => ?_, fun i h0 h1 => ?_, ?_, fun l q h0 h1 h2 h3 => ?_, ?_, fun i h0 h1 => ?_⟩
      · rw [far _ (by omega)]
        exact hp.1 i h0 h1
      · rw [far _ (by omega)]
        exact hp.2.1 i h0 h1
      · rw [f54, fup_at]
      · rw [f54, fup_ne _ _ (by omega)]
        by_cases k : l = n
        · rw [k]
          have qq : q = 0 ∨ q = 1 ∨ q = 2 ∨ q = 3 := by omega
          unfold fup
          split <;> split <;> (try split) <;> (try split) <;> (try split) <;> (try split) <;> (try split) <;> (try split) <;> omega
        · have g := hp.2.2.2.1 l q h0 (by omega) h2 h3
          rw [fup_ne _ _ (by omega), fup_ne _ _ (by omega), fup_ne _ _ (by omega), fup_ne _ _ (by omega), fup_ne _ _ (by omega), fup_ne _ _ (by omega), fup_ne _ _ (by omega), fup_ne _ _ (by omega)]
          exact g
      · rw [far _ (by omega)]
        exact hp.2.2.2.2.1
      · rw [far _ (by omega), far (62 + 3 * i) (by omega), far (63 + 3 * i) (by omega)]
        exact hp.2.2.2.2.2 i h0 h1
    · refine ⟨-3, M, M, ⟨⟨by decide, Nat.le_of_ble_eq_true rfl⟩, fun K hK => q_L_enact_0 hK x y z w M ⟨_, _, R_isLawPart 7 M 0 x, br_f (fun q => b2_0.mp q (by omega)) ⟨_, _, R_isLawPart 7 M 1 y, br_f (fun q => b2_0.mp q (by omega)) ⟨_, _, R_isLawPart 7 M 2 z, br_f (fun q => b2_0.mp q (by omega)) ⟨_, _, R_isLawPart 7 M 3 w, br_t (b2_n0.mpr (by omega)) (br_f c2 (mret_i rfl rfl))⟩⟩⟩⟩⟩, ⟨⟨by decide, Nat.le_of_ble_eq_true rfl⟩, fun K hK => q_M_enact_0 hK x y z w M ⟨_, _, R_in 8 _ _ _ _, br_f (fun q => b2_0.mp q (by omega)) ⟨_, _, R_mIsColour 7 M y, br_f (fun q => b2_0.mp q c.2.1) ⟨_, _, R_mIsColour 7 M z, br_f (fun q => b2_0.mp q c.2.2.1) ⟨_, _, R_in 8 _ _ _ _, br_t (b2_n0.mpr (by omega)) (br_f (fun q => q (by omega)) (mret_i rfl rfl))⟩⟩⟩⟩⟩, h⟩
  · refine ⟨-1, M, M, ⟨⟨by decide, Nat.le_of_ble_eq_true rfl⟩, fun K hK => q_L_enact_0 hK x y z w M ⟨_, _, R_isLawPart 7 M 0 x, ⟨fun _ => mret_i rfl rfl, fun q1 => ⟨_, _, R_isLawPart 7 M 1 y, ⟨fun _ => mret_i rfl rfl, fun q2 => ⟨_, _, R_isLawPart 7 M 2 z, ⟨fun _ => mret_i rfl rfl, fun q3 => ⟨_, _, R_isLawPart 7 M 3 w, br_f (fun q4 => ?_) (mret_i rfl rfl)⟩⟩⟩⟩⟩⟩⟩⟩, ⟨⟨by decide, Nat.le_of_ble_eq_true rfl⟩, fun K hK => q_M_enact_0 hK x y z w M ⟨_, _, R_in 8 _ _ _ _, ⟨fun _ => mret_i rfl rfl, fun q1 => ⟨_, _, R_mIsColour 7 M y, ⟨fun _ => mret_i rfl rfl, fun q2 => ⟨_, _, R_mIsColour 7 M z, ⟨fun _ => mret_i rfl rfl, fun q3 => ⟨_, _, R_in 8 _ _ _ _, br_f (fun q4 => ?_) (mret_i rfl rfl)⟩⟩⟩⟩⟩⟩⟩⟩, h⟩
    · have q1 := b2_n0.mp q1
      have q2 := b2_n0.mp q2
      have q3 := b2_n0.mp q3
      have q4 := b2_n0.mp q4
      omega
    · have q1 := b2_n0.mp q1
      have q2 := b2_n0.mp q2
      have q3 := b2_n0.mp q3
      have q4 := b2_n0.mp q4
      omega
end
section
/-! PURE PROOFS 22: work, unpick, moth, mend -/
theorem Pg_put {M : mMem} {b : Nat} {p t v : Int} (hb : b + 8 ≤ 54) (h : Pg M b p) (h5 : M b 5 ≤ 5) (h6 : M b 6 ≤ 8) (ht : 0 ≤ t ∧ t < 36) : Pg (mupd (putM M b t v) 54 (p + t) v) b p := by
  obtain ⟨g1, g2, g3, g4, g5, g6⟩ := h
  have e54 : mupd (putM M b t v) 54 (p + t) v 54 = fup (M 54) (p + t) v := by rw [mupd_at, put_ne _ _ _ _ (by omega) (by omega) (by omega)]
  have e1 : mupd (putM M b t v) 54 (p + t) v (b + 1) = fup (M (b + 1)) t v := by rw [mupd_ne _ _ _ (by omega), put_cel]
  have e : ∀ k, k ≠ 54 → k ≠ b + 1 → k ≠ b + 6 → k ≠ b + 7 → mupd (putM M b t v) 54 (p + t) v k = M k := fun k q0 q1 q6 q7 => by rw [mupd_ne _ _ _ q0, put_ne _ _ _ _ q1 q6 q7]
  generalize mupd (putM M b t v) 54 (p + t) v = m at e54 e1 e
  unfold Pg
  rw [e54, e1, e b (by omega) (by omega) (by omega) (by omega), e (b + 2) (by omega) (by omega) (by omega) (by omega), e (b + 3) (by omega) (by omega) (by omega) (by omega), e (b + 4) (by omega) (by omega) (by omega) (by omega), e (b + 5) (by omega) (by omega) (by omega) (by omega)]
  refine ⟨fun i h0 h1 => ?_, fun c h0 h1 => ?_, ?_, fun l x h0 h1 h2 h3 => ?_, ?_, fun i h0 h1 => ?_⟩
  · have g := g1 i h0 h1
    unfold fup
    split <;> split <;> omega
  · rw [fup_ne _ _ (by omega)]
    exact g2 c h0 h1
  · rw [fup_ne _ _ (by omega)]
    exact g3
  · rw [fup_ne _ _ (by omega)]
    exact g4 l x h0 h1 h2 h3
  · rw [fup_ne _ _ (by omega)]
    exact g5
  · rw [fup_ne _ _ (by omega), fup_ne _ _ (by omega), fup_ne _ _ (by omega)]
    exact g6 i h0 h1
theorem Pg_take {M : mMem} {b : Nat} {p t c : Int} (hb : b + 8 ≤ 54) (h : Pg M b p) (hc : Cht M b) (ht : 0 ≤ t ∧ t < 36) (hz : 1 ≤ c ∧ c ≤ 3) (hs : 0 < M (b + 2) c) : Pg (stM (takeM M b t c) p t c) b p := by
  obtain ⟨g1, g2, g3, g4, g5, g6⟩ := h
  have s9 : 0 ≤ M (b + 2) c ∧ M (b + 2) c ≤ 99 := hc.2.2.2.2.2 c hz.1 hz.2
  have h5 : 0 ≤ M b 5 ∧ M b 5 ≤ 5 := hc.2.1
  have h6 : 0 ≤ M b 6 ∧ M b 6 ≤ 8 := hc.2.2.2.1
  have w : w32 (M (b + 2) c - 1) = M (b + 2) c - 1 := w32_s (by omega) (by omega)
  have e54 : stM (takeM M b t c) p t c 54 = fup (fup (M 54) (p + t) c) (p + 35 + c) (M 54 (p + 35 + c) - 1) := by
    unfold stM
    rw [mupd_at, mupd_at, takeM_ne _ _ _ _ (by omega) (by omega) (by omega) (by omega)]
  have e0 : ∀ k, k ≠ 54 → stM (takeM M b t c) p t c k = takeM M b t c k := fun k q => by
    unfold stM
    rw [mupd_ne _ _ _ q, mupd_ne _ _ _ q]
  have e1 : stM (takeM M b t c) p t c (b + 1) = fup (M (b + 1)) t c := by rw [e0 _ (by omega), takeM_1]
  have e2 : stM (takeM M b t c) p t c (b + 2) = fup (M (b + 2)) c (M (b + 2) c - 1) := by rw [e0 _ (by omega), takeM_2, w]
  have e : ∀ k, k ≠ 54 → k ≠ b + 1 → k ≠ b + 2 → k ≠ b + 6 → k ≠ b + 7 → stM (takeM M b t c) p t c k = M k := fun k q0 q1 q2 q6 q7 => by rw [e0 k q0, takeM_ne _ _ _ _ q1 q2 q6 q7]
  generalize stM (takeM M b t c) p t c = m at e54 e1 e2 e
  unfold Pg
  rw [e54, e1, e2, e b (by omega) (by omega) (by omega) (by omega) (by omega), e (b + 3) (by omega) (by omega) (by omega) (by omega) (by omega), e (b + 4) (by omega) (by omega) (by omega) (by omega) (by omega), e (b + 5) (by omega) (by omega) (by omega) (by omega) (by omega)]
  refine ⟨fun i h0 h1 => ?_, fun c' h0 h1 => ?_, ?_, fun l x h0 h1 h2 h3 => ?_, ?_, fun i h0 h1 => ?_⟩
  · have g := g1 i h0 h1
    rw [fup_ne _ _ (by omega)]
    unfold fup
    split <;> split <;> omega
  · have g := g2 c' h0 h1
    by_cases q : c' = c
    · rw [q, fup_at, fup_at]
      rw [q] at g
      omega
    · rw [fup_ne _ _ (by omega), fup_ne _ _ (by omega), fup_ne _ _ q]
      exact g
  · rw [fup_ne _ _ (by omega), fup_ne _ _ (by omega)]
    exact g3
  · rw [fup_ne _ _ (by omega), fup_ne _ _ (by omega)]
    exact g4 l x h0 h1 h2 h3
  · rw [fup_ne _ _ (by omega), fup_ne _ _ (by omega)]
    exact g5
  · rw [fup_ne _ _ (by omega), fup_ne _ _ (by omega), fup_ne _ _ (by omega), fup_ne _ _ (by omega), fup_ne _ _ (by omega), fup_ne _ _ (by omega)]
    exact g6 i h0 h1
theorem Inv_put {M : mMem} (h : Inv M) {t v : Int} (ht : 0 ≤ t ∧ t < 36) (hv : 0 ≤ v ∧ v ≤ 4) : Inv (mupd (putM M 1 t v) 54 t v) := by
  have hp := Pg_put (M := M) (b := 1) (p := 0) (t := t) (v := v) (by decide) h.2.1 h.1.2.1.2 h.1.2.2.2.1.2 ht
  rw [Int.zero_add] at hp
  refine Inv_c1 h (Cht_eq (put_cht h.1 ht hv) (fun k h0 h1 => mupd_ne _ _ _ (by omega))) hp (fun k q0 q1 => ?_) (fun i q0 q1 => ?_)
  · rw [mupd_ne _ _ _ q1, put_ne _ _ _ _ (by omega) (by omega) (by omega)]
  · rw [mupd_at, fup_ne _ _ (by omega), put_ne _ _ _ _ (by omega) (by omega) (by omega)]
theorem Inv_take {M : mMem} (h : Inv M) {t c : Int} (ht : 0 ≤ t ∧ t < 36) (hz : 1 ≤ c ∧ c ≤ 3) (hs : 0 < M 3 c) : Inv (stM (takeM M 1 t c) 0 t c) := by
  have hp := Pg_take (M := M) (b := 1) (p := 0) (t := t) (c := c) (by decide) h.2.1 h.1 ht hz hs
  have e0 : ∀ k, k ≠ 54 → stM (takeM M 1 t c) 0 t c k = takeM M 1 t c k := fun k q => by
    unfold stM
    rw [mupd_ne _ _ _ q, mupd_ne _ _ _ q]
  refine Inv_c1 h (Cht_eq (takeM_cht h.1 ht hz hs) (fun k h0 h1 => e0 k (by omega))) hp (fun k q0 q1 => ?_) (fun i q0 q1 => ?_)
  · rw [e0 k q1, takeM_ne _ _ _ _ (by omega) (by omega) (by omega) (by omega)]
  · unfold stM
    rw [mupd_at, fup_ne _ _ (by omega), mupd_at, fup_ne _ _ (by omega), takeM_ne _ _ _ _ (by omega) (by omega) (by omega) (by omega)]
theorem R_works_t (d : Nat) (M : mMem) {x y z : Int} (n : Nat) (hx : 0 ≤ x ∧ x < 6 ∧ 0 ≤ y ∧ y < 6) (hz : 1 ≤ z ∧ z ≤ 3) (hs : -20 ≤ M 54 (0 + 35 + z) ∧ M 54 (0 + 35 + z) ≤ 79) (hq : M 54 (0 + (6 * x + y)) = 0 ∧ 0 < M 54 (0 + 35 + z) + 20) (hn : stM M 0 (6 * x + y) z 54 (0 + 39) = n) (h5 : n ≤ 5) (hL : lawOK (pgL (stM M 0 (6 * x + y) z) 0) n) : mR3 (d + 4) 149 [vr 53, vi x, vi y, vi z] (S0, M) (some (vi (woS (pgL (stM M 0 (6 * x + y) z) 0) (pg (stM M 0 (6 * x + y) z) 0) n)), (S0, stM M 0 (6 * x + y) z)) := by
  have e : w32 (w32 (6 * x) + y) = 6 * x + y := by rw [w32_s (z := 6 * x) (by omega) (by omega), w32_s (by omega) (by omega)]
  refine ⟨⟨by decide, Nat.le_of_ble_eq_true rfl⟩, fun K hK => q_M_works_0 hK x y z M ⟨_, _, R_mIsCell (d + 1) M x y, br_f (fun q => b2_0.mp q hx) ⟨_, _, R_mIsColour (d + 1) M z, br_t (b2_n0.mpr hz) ?_⟩⟩⟩
  rw [e]
  have g := R_stitchesOn (d + 2) M 0 (6 * x + y) z (by omega) (by omega) hz hs
  rw [if_pos hq] at g
  exact ⟨_, _, g, br_f (fun q => b2_0.mp q hq) ⟨_, _, R_worthOn d _ 0 n (by omega) hn h5 hL, mret_i rfl rfl⟩⟩
theorem R_works_s (d : Nat) (M : mMem) {x y z : Int} (hx : 0 ≤ x ∧ x < 6 ∧ 0 ≤ y ∧ y < 6) (hz : 1 ≤ z ∧ z ≤ 3) (hs : -20 ≤ M 54 (0 + 35 + z) ∧ M 54 (0 + 35 + z) ≤ 79) (hq : ¬ (M 54 (0 + (6 * x + y)) = 0 ∧ 0 < M 54 (0 + 35 + z) + 20)) : mR3 (d + 4) 149 [vr 53, vi x, vi y, vi z] (S0, M) (some (vi (-2)), (S0, M)) := by
  have e : w32 (w32 (6 * x) + y) = 6 * x + y := by rw [w32_s (z := 6 * x) (by omega) (by omega), w32_s (by omega) (by omega)]
  refine ⟨⟨by decide, Nat.le_of_ble_eq_true rfl⟩, fun K hK => q_M_works_0 hK x y z M ⟨_, _, R_mIsCell (d + 1) M x y, br_f (fun q => b2_0.mp q hx) ⟨_, _, R_mIsColour (d + 1) M z, br_t (b2_n0.mpr hz) ?_⟩⟩⟩
  rw [e]
  have g := R_stitchesOn (d + 2) M 0 (6 * x + y) z (by omega) (by omega) hz hs
  rw [if_neg hq] at g
  exact ⟨_, _, g, br_t (b2_f hq) (mret_i rfl rfl)⟩
theorem R_works_b (d : Nat) (M : mMem) {x y z : Int} (hx : ¬ ((0 ≤ x ∧ x < 6 ∧ 0 ≤ y ∧ y < 6) ∧ 1 ≤ z ∧ z ≤ 3)) : mR3 (d + 4) 149 [vr 53, vi x, vi y, vi z] (S0, M) (some (vi (-1)), (S0, M)) :=
  ⟨⟨by decide, Nat.le_of_ble_eq_true rfl⟩, fun K hK => q_M_works_0 hK x y z M ⟨_, _, R_mIsCell (d + 1) M x y, ⟨fun _ => mret_i rfl rfl, fun q => ⟨_, _, R_mIsColour (d + 1) M z, br_f (fun q2 => hx ⟨b2_n0.mp q, b2_n0.mp q2⟩) (mret_i rfl rfl)⟩⟩⟩⟩
theorem P_work {M : mMem} (h : Inv M) (x y z : Int) : PairI 59 150 [vi x, vi y, vi z] M := by
  have hc := h.1
  have hp := h.2.1
  by_cases c : (0 ≤ x ∧ x < 6 ∧ 0 ≤ y ∧ y < 6) ∧ 1 ≤ z ∧ z ≤ 3
  · have ht : 0 ≤ 6 * x + y ∧ 6 * x + y < 36 := by omega
    have g1 : M 54 (0 + (6 * x + y)) = M 2 (6 * x + y) := hp.1 _ ht.1 ht.2
    have g2 : M 54 (0 + 35 + z) + 20 = M 3 z := hp.2.1 z c.2.1 c.2.2
    have s9 : 0 ≤ M 3 z ∧ M 3 z ≤ 99 := hc.2.2.2.2.2 z c.2.1 c.2.2
    by_cases c2 : M 2 (6 * x + y) = 0 ∧ 0 < M 3 z
    · have b5 : 0 ≤ M 1 5 ∧ M 1 5 ≤ 5 := hc.2.1
      obtain ⟨n, hn⟩ : ∃ n : Nat, M 1 5 = n := ⟨(M 1 5).toNat, by omega⟩
      have tc := takeM_cht (t := 6 * x + y) (c := z) hc ht c.2 c2.2
      have t0 : takeM M 1 (6 * x + y) z 1 = M 1 := takeM_ne _ _ _ _ (by decide) (by decide) (by decide) (by decide)
      have t54 : takeM M 1 (6 * x + y) z 54 = M 54 := takeM_ne _ _ _ _ (by decide) (by decide) (by decide) (by decide)
      have n1 : takeM M 1 (6 * x + y) z 1 5 = n := by rw [t0, hn]
      have hL : lawOK (takeM M 1 (6 * x + y) z (1 + 3)) n := by
        have q := tc.2.2.1
        rw [n1] at q
        exact q
      have a1 : mR3 10 59 [vr 0, vi x, vi y, vi z] (S0, M) (some (vi (woS (takeM M 1 (6 * x + y) z (1 + 3)) (takeM M 1 (6 * x + y) z (1 + 1)) n)), (S0, takeM M 1 (6 * x + y) z)) := by
        refine ⟨⟨by decide, Nat.le_of_ble_eq_true rfl⟩, fun K hK => q_L_work_0 hK x y z M ⟨_, _, R_isCell 8 M x y, br_f (fun q => b2_0.mp q c.1) ⟨_, _, R_isColour 8 M z, br_t (b2_n0.mpr c.2) ⟨_, _, R_place 8 M (x := x) (y := y) (by omega) (by omega), _, _, R_canTake 8 M 1 (by omega) (6 * x + y) z ht c.2, br_t (b2_n0.mpr c2) ⟨_, R_take 6 M 1 (by omega) (6 * x + y) z ht c.2 hc.1.1, _, _, R_worth 6 (takeM M 1 (6 * x + y) z) 1 (by omega) n n1 (by omega) tc.1 hL, mret_i rfl rfl⟩⟩⟩⟩⟩
      have iv := Inv_take h ht c.2 c2.2
      have pw := Pg_wo iv.2.1 (n := n) (by
        unfold stM
        rw [mupd_ne _ _ _ (by decide), mupd_ne _ _ _ (by decide), n1])
      have pl := Pg_law iv.2.1 iv.1
      have k5 : stM (takeM M 1 (6 * x + y) z) 0 (6 * x + y) z 1 5 = n := by
        unfold stM
        rw [mupd_ne _ _ _ (by decide), mupd_ne _ _ _ (by decide), n1]
      have k4 : stM (takeM M 1 (6 * x + y) z) 0 (6 * x + y) z (1 + 3) = takeM M 1 (6 * x + y) z (1 + 3) := by
        unfold stM
        rw [mupd_ne _ _ _ (by decide), mupd_ne _ _ _ (by decide)]
      have k2 : stM (takeM M 1 (6 * x + y) z) 0 (6 * x + y) z (1 + 1) = takeM M 1 (6 * x + y) z (1 + 1) := by
        unfold stM
        rw [mupd_ne _ _ _ (by decide), mupd_ne _ _ _ (by decide)]
      rw [k5] at pl
      rw [k4, k2] at pw
      have k39 : stM (takeM M 1 (6 * x + y) z) 0 (6 * x + y) z 54 (0 + 39) = n := by
        have q := iv.2.1.2.2.1
        rw [q, k5]
      have a2 : mR3 10 150 [vr 53, vi x, vi y, vi z] (S0, takeM M 1 (6 * x + y) z) (some (vi (woS (takeM M 1 (6 * x + y) z (1 + 3)) (takeM M 1 (6 * x + y) z (1 + 1)) n)), (S0, stM (takeM M 1 (6 * x + y) z) 0 (6 * x + y) z)) := by
        refine ⟨⟨by decide, Nat.le_of_ble_eq_true rfl⟩, fun K hK => q_M_work_0 hK x y z _ ⟨_, _, R_works_t 5 _ n c.1 c.2 (by rw [t54]; omega) (by rw [t54]; omega) k39 (by omega) pl, mret_i pw rfl⟩⟩
      exact ⟨_, _, _, a1, a2, iv⟩
    · refine ⟨-2, M, M, ⟨⟨by decide, Nat.le_of_ble_eq_true rfl⟩, fun K hK => q_L_work_0 hK x y z M ⟨_, _, R_isCell 8 M x y, br_f (fun q => b2_0.mp q c.1) ⟨_, _, R_isColour 8 M z, br_t (b2_n0.mpr c.2) ⟨_, _, R_place 8 M (x := x) (y := y) (by omega) (by omega), _, _, R_canTake 8 M 1 (by omega) (6 * x + y) z ht c.2, br_f (fun q => c2 (b2_n0.mp q)) (mret_i rfl rfl)⟩⟩⟩⟩, ⟨⟨by decide, Nat.le_of_ble_eq_true rfl⟩, fun K hK => q_M_work_0 hK x y z M ⟨_, _, R_works_s 5 M c.1 c.2 (by omega) (by omega), mret_i rfl rfl⟩⟩, h⟩
  · refine ⟨-1, M, M, ⟨⟨by decide, Nat.le_of_ble_eq_true rfl⟩, fun K hK => q_L_work_0 hK x y z M ⟨_, _, R_isCell 8 M x y, ⟨fun _ => mret_i rfl rfl, fun q => ⟨_, _, R_isColour 8 M z, br_f (fun q2 => c ⟨b2_n0.mp q, b2_n0.mp q2⟩) (mret_i rfl rfl)⟩⟩⟩⟩, ⟨⟨by decide, Nat.le_of_ble_eq_true rfl⟩, fun K hK => q_M_work_0 hK x y z M ⟨_, _, R_works_b 5 M c, mret_i rfl rfl⟩⟩, h⟩
theorem P_unpick {M : mMem} (h : Inv M) (x y : Int) : PairI 60 151 [vi x, vi y] M := by
  have hc := h.1
  have hp := Pg0_of h.2.1
  by_cases c : 0 ≤ x ∧ x < 6 ∧ 0 ≤ y ∧ y < 6
  · have ht : 0 ≤ 6 * x + y ∧ 6 * x + y < 36 := by omega
    have e : w32 (w32 (6 * x) + y) = 6 * x + y := by rw [w32_s (z := 6 * x) (by omega) (by omega), w32_s (by omega) (by omega)]
    have g1 : M 54 (6 * x + y) = M 2 (6 * x + y) := hp.1 _ ht.1 ht.2
    have r1 : 0 ≤ M 2 (6 * x + y) ∧ M 2 (6 * x + y) ≤ 4 := hc.1.1 _ ht.1 ht.2
    have p54 : ∀ v, putM M 1 (6 * x + y) v 54 = M 54 := fun v => put_ne _ _ _ _ (by decide) (by decide) (by decide)
    by_cases c2 : 1 ≤ M 2 (6 * x + y) ∧ M 2 (6 * x + y) ≤ 3
    · refine ⟨M 2 (6 * x + y), _, _, ⟨⟨by decide, Nat.le_of_ble_eq_true rfl⟩, fun K hK => q_L_unpick_0 hK x y M ⟨_, _, R_isCell 8 M x y, br_t (b2_n0.mpr c) ⟨_, _, R_place 8 M (x := x) (y := y) (by omega) (by omega), mIn_i (by omega) (by omega) ⟨_, _, R_isColour 8 M _, br_t (b2_n0.mpr c2) ⟨_, R_put 7 M 1 (by omega) (6 * x + y) 0 ht (by omega) hc.1.1, mret_i rfl rfl⟩⟩⟩⟩⟩, ⟨⟨by decide, Nat.le_of_ble_eq_true rfl⟩, fun K hK => q_M_unpick_0 hK x y _ ⟨_, _, R_mIsCell 7 _ x y, br_t (b2_n0.mpr c) ?_⟩⟩, Inv_put h ht (show (0 : Int) ≤ 0 ∧ (0 : Int) ≤ 4 by omega)⟩
      rw [e, p54, g1]
      refine mIn_i (by omega) (by omega) ⟨_, _, R_mIsColour 7 _ _, br_f (fun q => b2_0.mp q c2) ⟨_, _, R_puts 8 _ 1 (6 * x + y) 0 0 (fun _ => ⟨by omega, by omega⟩), ?_⟩⟩
      rw [if_pos (by decide), if_pos (by decide), p54, g1, Int.add_zero, w32_s (by omega) (by omega)]
      exact mret_i rfl rfl
    · refine ⟨-2, M, M, ⟨⟨by decide, Nat.le_of_ble_eq_true rfl⟩, fun K hK => q_L_unpick_0 hK x y M ⟨_, _, R_isCell 8 M x y, br_t (b2_n0.mpr c) ⟨_, _, R_place 8 M (x := x) (y := y) (by omega) (by omega), mIn_i (by omega) (by omega) ⟨_, _, R_isColour 8 M _, br_f (fun q => c2 (b2_n0.mp q)) (mret_i rfl rfl)⟩⟩⟩⟩, ⟨⟨by decide, Nat.le_of_ble_eq_true rfl⟩, fun K hK => q_M_unpick_0 hK x y _ ⟨_, _, R_mIsCell 7 _ x y, br_t (b2_n0.mpr c) ?_⟩⟩, h⟩
      rw [e, g1]
      exact mIn_i (by omega) (by omega) ⟨_, _, R_mIsColour 7 _ _, br_t (b2_f c2) (mret_i rfl rfl)⟩
  · exact ⟨-1, M, M, ⟨⟨by decide, Nat.le_of_ble_eq_true rfl⟩, fun K hK => q_L_unpick_0 hK x y M ⟨_, _, R_isCell 8 M x y, br_f (fun q => c (b2_n0.mp q)) (mret_i rfl rfl)⟩⟩, ⟨⟨by decide, Nat.le_of_ble_eq_true rfl⟩, fun K hK => q_M_unpick_0 hK x y M ⟨_, _, R_mIsCell 7 M x y, br_f (fun q => c (b2_n0.mp q)) (mret_i rfl rfl)⟩⟩, h⟩
theorem P_moth {M : mMem} (h : Inv M) (x y : Int) : PairI 61 152 [vi x, vi y] M := by
  have hc := h.1
  have hp := Pg0_of h.2.1
  by_cases c : 0 ≤ x ∧ x < 6 ∧ 0 ≤ y ∧ y < 6
  · have ht : 0 ≤ 6 * x + y ∧ 6 * x + y < 36 := by omega
    have e : w32 (w32 (6 * x) + y) = 6 * x + y := by rw [w32_s (z := 6 * x) (by omega) (by omega), w32_s (by omega) (by omega)]
    have g1 : M 54 (6 * x + y) = M 2 (6 * x + y) := hp.1 _ ht.1 ht.2
    have r1 : 0 ≤ M 2 (6 * x + y) ∧ M 2 (6 * x + y) ≤ 4 := hc.1.1 _ ht.1 ht.2
    have p54 : ∀ v, putM M 1 (6 * x + y) v 54 = M 54 := fun v => put_ne _ _ _ _ (by decide) (by decide) (by decide)
    by_cases c2 : M 2 (6 * x + y) ≠ 4
    · refine ⟨M 2 (6 * x + y), _, _, ⟨⟨by decide, Nat.le_of_ble_eq_true rfl⟩, fun K hK => q_L_moth_0 hK x y M ⟨_, _, R_isCell 8 M x y, br_t (b2_n0.mpr c) ⟨_, _, R_place 8 M (x := x) (y := y) (by omega) (by omega), mIn_i (by omega) (by omega) (br_t c2 ⟨_, R_put 7 M 1 (by omega) (6 * x + y) 4 ht (by omega) hc.1.1, mret_i rfl rfl⟩)⟩⟩⟩, ⟨⟨by decide, Nat.le_of_ble_eq_true rfl⟩, fun K hK => q_M_moth_0 hK x y _ ⟨_, _, R_mIsCell 7 _ x y, br_t (b2_n0.mpr c) ?_⟩⟩, Inv_put h ht (show (0 : Int) ≤ 4 ∧ (4 : Int) ≤ 4 by omega)⟩
      rw [e, p54, g1]
      refine mIn_i (by omega) (by omega) (br_f c2 ⟨_, _, R_puts 8 _ 1 (6 * x + y) 4 0 (fun _ => ⟨by omega, by omega⟩), ?_⟩)
      rw [if_pos (by decide), if_pos (by decide), p54, g1, Int.add_zero, w32_s (by omega) (by omega)]
      exact mret_i rfl rfl
    · refine ⟨-2, M, M, ⟨⟨by decide, Nat.le_of_ble_eq_true rfl⟩, fun K hK => q_L_moth_0 hK x y M ⟨_, _, R_isCell 8 M x y, br_t (b2_n0.mpr c) ⟨_, _, R_place 8 M (x := x) (y := y) (by omega) (by omega), mIn_i (by omega) (by omega) (br_f c2 (mret_i rfl rfl))⟩⟩⟩, ⟨⟨by decide, Nat.le_of_ble_eq_true rfl⟩, fun K hK => q_M_moth_0 hK x y _ ⟨_, _, R_mIsCell 7 _ x y, br_t (b2_n0.mpr c) ?_⟩⟩, h⟩
      rw [e, g1]
      exact mIn_i (by omega) (by omega) (br_t (by omega) (mret_i rfl rfl))
  · exact ⟨-1, M, M, ⟨⟨by decide, Nat.le_of_ble_eq_true rfl⟩, fun K hK => q_L_moth_0 hK x y M ⟨_, _, R_isCell 8 M x y, br_f (fun q => c (b2_n0.mp q)) (mret_i rfl rfl)⟩⟩, ⟨⟨by decide, Nat.le_of_ble_eq_true rfl⟩, fun K hK => q_M_moth_0 hK x y M ⟨_, _, R_mIsCell 7 M x y, br_f (fun q => c (b2_n0.mp q)) (mret_i rfl rfl)⟩⟩, h⟩
theorem P_mend {M : mMem} (h : Inv M) (x y : Int) : PairI 62 153 [vi x, vi y] M := by
  have hc := h.1
  have hp := Pg0_of h.2.1
  by_cases c : 0 ≤ x ∧ x < 6 ∧ 0 ≤ y ∧ y < 6
  · have ht : 0 ≤ 6 * x + y ∧ 6 * x + y < 36 := by omega
    have e : w32 (w32 (6 * x) + y) = 6 * x + y := by rw [w32_s (z := 6 * x) (by omega) (by omega), w32_s (by omega) (by omega)]
    have g1 : M 54 (6 * x + y) = M 2 (6 * x + y) := hp.1 _ ht.1 ht.2
    have p54 : ∀ v, putM M 1 (6 * x + y) v 54 = M 54 := fun v => put_ne _ _ _ _ (by decide) (by decide) (by decide)
    by_cases c2 : M 2 (6 * x + y) = 4
    · have iv := Inv_put h ht (show (0 : Int) ≤ 0 ∧ (0 : Int) ≤ 4 by omega)
      refine ⟨cO (putM M 1 (6 * x + y) 0 (1 + 1)) 4 36, _, _, ⟨⟨by decide, Nat.le_of_ble_eq_true rfl⟩, fun K hK => q_L_mend_0 hK x y M ⟨_, _, R_isCell 8 M x y, br_t (b2_n0.mpr c) ⟨_, _, R_place 8 M (x := x) (y := y) (by omega) (by omega), mIn_i (by omega) (by omega) (br_t c2 ⟨_, R_put 7 M 1 (by omega) (6 * x + y) 0 ht (by omega) hc.1.1, _, _, R_cellsOf 8 _ 1 (by omega) 4, mret_i rfl rfl⟩)⟩⟩⟩, ⟨⟨by decide, Nat.le_of_ble_eq_true rfl⟩, fun K hK => q_M_mend_0 hK x y _ ⟨_, _, R_mIsCell 7 _ x y, br_t (b2_n0.mpr c) ?_⟩⟩, iv⟩
      rw [e, p54, g1]
      refine mIn_i (by omega) (by omega) (br_t c2 (mIn_i (by omega) (by omega) ⟨_, _, R_holesOn 8 _ 0 (by omega), mret_i ?_ rfl⟩))
      refine cO_cong (fun i h0 h1 => ?_)
      have g := iv.2.1.1 i h0 h1
      exact g.trans (congrFun (mupd_ne _ _ _ (by decide)) i)
    · refine ⟨-2, M, M, ⟨⟨by decide, Nat.le_of_ble_eq_true rfl⟩, fun K hK => q_L_mend_0 hK x y M ⟨_, _, R_isCell 8 M x y, br_t (b2_n0.mpr c) ⟨_, _, R_place 8 M (x := x) (y := y) (by omega) (by omega), mIn_i (by omega) (by omega) (br_f c2 (mret_i rfl rfl))⟩⟩⟩, ⟨⟨by decide, Nat.le_of_ble_eq_true rfl⟩, fun K hK => q_M_mend_0 hK x y _ ⟨_, _, R_mIsCell 7 _ x y, br_t (b2_n0.mpr c) ?_⟩⟩, h⟩
      rw [e, g1]
      exact mIn_i (by omega) (by omega) (br_f c2 (mret_i rfl rfl))
  · exact ⟨-1, M, M, ⟨⟨by decide, Nat.le_of_ble_eq_true rfl⟩, fun K hK => q_L_mend_0 hK x y M ⟨_, _, R_isCell 8 M x y, br_f (fun q => c (b2_n0.mp q)) (mret_i rfl rfl)⟩⟩, ⟨⟨by decide, Nat.le_of_ble_eq_true rfl⟩, fun K hK => q_M_mend_0 hK x y M ⟨_, _, R_mIsCell 7 M x y, br_f (fun q => c (b2_n0.mp q)) (mret_i rfl rfl)⟩⟩, h⟩
end
section
/-! PURE PROOFS 23: law, stitch, rule, count -/
theorem P_law {M : mMem} (h : Inv M) (l x : Int) : PairI 52 140 [vi l, vi x] M := by
  have hc := h.1
  have hp := Pg0_of h.2.1
  have n0 : 0 ≤ M 1 5 ∧ M 1 5 ≤ 5 := hc.2.1
  have p3 : M 54 39 = M 1 5 := hp.2.2.1
  by_cases c : (0 ≤ l ∧ l < M 1 5) ∧ 0 ≤ x ∧ x ≤ 5
  · have pl := Pg_law h.2.1 hc
    by_cases c4 : x < 4
    · have i0 : w32 (w32 (l * 4) + x) = 4 * l + x := by
        rw [w32_s (z := l * 4) (by omega) (by omega), w32_s (by omega) (by omega)]
        omega
      have i1 : w32 (w32 (40 + w32 (5 * x)) + l) = 40 + 5 * x + l := by rw [w32_s (z := 5 * x) (by omega) (by omega), w32_s (z := 40 + 5 * x) (by omega) (by omega), w32_s (by omega) (by omega)]
      have g4 : M 54 (40 + 5 * x + l) = M 4 (4 * l + x) := hp.2.2.2.1 l x c.1.1 c.1.2 (by omega) (by omega)
      refine ⟨M 4 (4 * l + x), M, M, ⟨⟨by decide, Nat.le_of_ble_eq_true rfl⟩, fun K hK => q_L_law_0 hK l x M ⟨_, _, R_isLaw 8 M l, br_f (fun z => b2_0.mp z c.1) (br_f (by omega) (br_t c.2.2 (br_f (by omega) ?_)))⟩⟩, ⟨⟨by decide, Nat.le_of_ble_eq_true rfl⟩, fun K hK => q_M_law_0 hK l x M ⟨_, _, R_mIsLaw 7 M l (by rw [p3]; exact n0), br_f (fun z => b2_0.mp z (by rw [p3]; exact c.1)) ⟨_, _, R_in 8 _ _ _ _, br_t (b2_n0.mpr (by omega)) (br_f (by omega) ?_)⟩⟩⟩, h⟩
      · rw [i0]
        exact mIn_i (by omega) (by omega) (mret_i rfl rfl)
      · rw [i1, g4]
        exact mIn_i (by omega) (by omega) (mret_i rfl rfl)
    · by_cases c5 : x = 4
      · have g := R_readsOn 7 M 0 l 0 (M 1 5) (by omega) pl c.1 n0.2 (Or.inl rfl)
        rw [if_pos rfl] at g
        exact ⟨_, M, M, ⟨⟨by decide, Nat.le_of_ble_eq_true rfl⟩, fun K hK => q_L_law_0 hK l x M ⟨_, _, R_isLaw 8 M l, br_f (fun z => b2_0.mp z c.1) (br_f (by omega) (br_t c.2.2 (br_t (by omega) (br_f (fun z => z c5) ⟨_, _, R_reads 7 M 1 (by omega) l (M 1 5) hc.1 hc.2.2.1 c.1 n0.2, mret_i rfl rfl⟩))))⟩⟩, ⟨⟨by decide, Nat.le_of_ble_eq_true rfl⟩, fun K hK => q_M_law_0 hK l x M ⟨_, _, R_mIsLaw 7 M l (by rw [p3]; exact n0), br_f (fun z => b2_0.mp z (by rw [p3]; exact c.1)) ⟨_, _, R_in 8 _ _ _ _, br_t (b2_n0.mpr (by omega)) (br_t (by omega) (br_t (by omega) ⟨_, _, g, mret_i (Pg_rd h.2.1 c.1.1 c.1.2) rfl⟩))⟩⟩⟩, h⟩
      · have g := R_readsOn 7 M 0 l 1 (M 1 5) (by omega) pl c.1 n0.2 (Or.inr rfl)
        rw [if_neg (by decide)] at g
        exact ⟨_, M, M, ⟨⟨by decide, Nat.le_of_ble_eq_true rfl⟩, fun K hK => q_L_law_0 hK l x M ⟨_, _, R_isLaw 8 M l, br_f (fun z => b2_0.mp z c.1) (br_f (by omega) (br_t c.2.2 (br_t (by omega) (br_t c5 ⟨_, _, R_readsByBack 7 M 1 (by omega) l (M 1 5) hc.1 hc.2.2.1 c.1 n0.2, mret_i rfl rfl⟩))))⟩⟩, ⟨⟨by decide, Nat.le_of_ble_eq_true rfl⟩, fun K hK => q_M_law_0 hK l x M ⟨_, _, R_mIsLaw 7 M l (by rw [p3]; exact n0), br_f (fun z => b2_0.mp z (by rw [p3]; exact c.1)) ⟨_, _, R_in 8 _ _ _ _, br_t (b2_n0.mpr (by omega)) (br_t (by omega) (br_f (fun z => z (by omega)) ⟨_, _, g, mret_i (Pg_rdB h.2.1 c.1.1 c.1.2) rfl⟩))⟩⟩⟩, h⟩
  · refine ⟨-1, M, M, ⟨⟨by decide, Nat.le_of_ble_eq_true rfl⟩, fun K hK => q_L_law_0 hK l x M ⟨_, _, R_isLaw 8 M l, ⟨fun _ => mret_i rfl rfl, fun q => ⟨fun _ => mret_i rfl rfl, fun q2 => br_f (fun q3 => c ⟨b2_n0.mp q, by omega⟩) (mret_i rfl rfl)⟩⟩⟩⟩, ⟨⟨by decide, Nat.le_of_ble_eq_true rfl⟩, fun K hK => q_M_law_0 hK l x M ⟨_, _, R_mIsLaw 7 M l (by rw [p3]; exact n0), ⟨fun _ => mret_i rfl rfl, fun q => ⟨_, _, R_in 8 _ _ _ _, br_f (fun q2 => ?_) (mret_i rfl rfl)⟩⟩⟩⟩, h⟩
    have q := b2_n0.mp q
    have q2 := b2_n0.mp q2
    rw [p3] at q
    exact c ⟨q, by omega⟩
theorem P_stitch {M : mMem} (h : Inv M) (i x : Int) : PairI 53 141 [vi i, vi x] M := by
  have hc := h.1
  have hp := Pg0_of h.2.1
  have n0 : 0 ≤ M 1 6 ∧ M 1 6 ≤ 8 := hc.2.2.2.1
  have p5 : M 54 60 = M 1 6 := hp.2.2.2.2.1
  have w : w32 (M 54 60 - 1) = M 1 6 - 1 := by rw [p5, w32_s (by omega) (by omega)]
  by_cases c1 : 0 ≤ i ∧ i < M 1 6
  · by_cases c2 : 0 ≤ x ∧ x ≤ 2
    · have g : 6 * M 54 (61 + 3 * i) + M 54 (62 + 3 * i) = M 5 i ∧ (0 ≤ M 54 (62 + 3 * i) ∧ M 54 (62 + 3 * i) < 6) ∧ M 54 (63 + 3 * i) = M 6 i := hp.2.2.2.2.2 i c1.1 c1.2
      have r : (0 ≤ M 5 i ∧ M 5 i < 36) ∧ 1 ≤ M 6 i ∧ M 6 i ≤ 3 := hc.2.2.2.2.1 i c1.1 c1.2
      have i1 : w32 (w32 (61 + w32 (3 * i)) + x) = 61 + 3 * i + x := by rw [w32_s (z := 3 * i) (by omega) (by omega), w32_s (z := 61 + 3 * i) (by omega) (by omega), w32_s (by omega) (by omega)]
      refine ⟨M 54 (61 + 3 * i + x), M, M, ⟨⟨by decide, Nat.le_of_ble_eq_true rfl⟩, fun K hK => q_L_stitch_0 hK i x M (br_f (by omega) (br_t c1.2 ⟨⟨fun q => mIn_i (by omega) (by omega) (mret_i ?_ rfl), fun q => mIn_i (by omega) (by omega) (mret_i ?_ rfl), fun q => mIn_i (by omega) (by omega) (mret_i ?_ rfl), trivial⟩, fun q => mret_i (by omega) rfl⟩))⟩, ⟨⟨by decide, Nat.le_of_ble_eq_true rfl⟩, fun K hK => q_M_stitch_0 hK i x M ⟨_, _, R_in 8 _ _ _ _, br_f (fun q => b2_0.mp q (by rw [w]; omega)) ⟨_, _, R_in 8 _ _ _ _, br_f (fun q => b2_0.mp q (by omega)) ?_⟩⟩⟩, h⟩
      · rw [show 61 + 3 * i + x = 61 + 3 * i by omega, jdiv_nn r.1.1 (by omega) (by omega)]
        omega
      · rw [show 61 + 3 * i + x = 62 + 3 * i by omega, jrem_nn r.1.1]
        omega
      · rw [show 61 + 3 * i + x = 63 + 3 * i by omega]
        exact g.2.2.symm
      · rw [i1]
        exact mIn_i (by omega) (by omega) (mret_i rfl rfl)
    · refine ⟨-1, M, M, ⟨⟨by decide, Nat.le_of_ble_eq_true rfl⟩, fun K hK => q_L_stitch_0 hK i x M (br_f (by omega) (br_t c1.2 ⟨⟨fun q => mIn_i (by omega) (by omega) (mret_i (by omega) rfl), fun q => mIn_i (by omega) (by omega) (mret_i (by omega) rfl), fun q => mIn_i (by omega) (by omega) (mret_i (by omega) rfl), trivial⟩, fun q => mret_i rfl rfl⟩))⟩, ⟨⟨by decide, Nat.le_of_ble_eq_true rfl⟩, fun K hK => q_M_stitch_0 hK i x M ⟨_, _, R_in 8 _ _ _ _, br_f (fun q => b2_0.mp q (by rw [w]; omega)) ⟨_, _, R_in 8 _ _ _ _, br_t (b2_f (by omega)) (mret_i rfl rfl)⟩⟩⟩, h⟩
  · refine ⟨-1, M, M, ⟨⟨by decide, Nat.le_of_ble_eq_true rfl⟩, fun K hK => q_L_stitch_0 hK i x M ⟨fun _ => mret_i rfl rfl, fun q => br_f (by omega) (mret_i rfl rfl)⟩⟩, ⟨⟨by decide, Nat.le_of_ble_eq_true rfl⟩, fun K hK => q_M_stitch_0 hK i x M ⟨_, _, R_in 8 _ _ _ _, br_t (b2_f (by rw [w]; omega)) (mret_i rfl rfl)⟩⟩, h⟩
def colS (f : Int → Int) (n : Nat) : Int := sm (fun k => b2 (1 ≤ f (k : Nat) ∧ f (k : Nat) ≤ 3)) n
theorem col_split {f : Int → Int} (h : celOK f) : ∀ n : Nat, n ≤ 36 → cO f 0 n + cO f 4 n + colS f n = n
  | 0, _ => rfl
  | n + 1, q => by
    have h1 := col_split h n (by omega)
    have r := h (n : Int) (by omega) (by omega)
    have e1 : cO f 0 (n + 1) = cO f 0 n + b2 (f (n : Nat) = 0) := rfl
    have e2 : cO f 4 (n + 1) = cO f 4 n + b2 (f (n : Nat) = 4) := rfl
    have e3 : colS f (n + 1) = colS f n + b2 (1 ≤ f (n : Nat) ∧ f (n : Nat) ≤ 3) := rfl
    have e : b2 (f (n : Nat) = 0) + b2 (f (n : Nat) = 4) + b2 (1 ≤ f (n : Nat) ∧ f (n : Nat) ≤ 3) = 1 := by
      unfold b2
      split <;> split <;> split <;> omega
    omega
theorem colS_rng (f : Int → Int) (n : Nat) : 0 ≤ colS f n ∧ colS f n ≤ n := sm_rng (fun k => by
  have h := b2_01 (1 ≤ f (k : Nat) ∧ f (k : Nat) ≤ 3)
  omega) n
theorem rule_loop {M : mMem} {ret : Option mVal → mHp → Prop} {lim : Nat × Nat} {scr : Nat × (Nat → Int)} {K : Nat → mLV → List mVal → mHp → Prop} (hK : mClo m_M_rule (mR3 9) lim scr ret K) (x : Int) (h : K 4 [(0, vr 53), (1, vi x), (2, vi (colS (M 54) 36)), (3, vi 36)] [] (S0, M)) : K 4 [(0, vr 53), (1, vi x), (2, vi 0), (3, vi 0)] [] (S0, M) := by
  have loop : ∀ (j k : Nat), k + j = 36 → K 4 [(0, vr 53), (1, vi x), (2, vi (colS (M 54) k)), (3, vi (k : Int))] [] (S0, M) := by
    intro j
    induction j with
    | zero =>
      intro k hk
      rw [show k = 36 by omega]
      exact h
    | succ j ih =>
      intro k hk
      have h1 := ih (k + 1) (by omega)
      have e4 : w32 ((k : Int) + 1) = ((k + 1 : Nat) : Int) := by rw [w32_s (by omega) (by omega)]; omega
      have r0 := colS_rng (M 54) k
      have e5 : colS (M 54) (k + 1) = colS (M 54) k + b2 (1 ≤ M 54 (k : Nat) ∧ M 54 (k : Nat) ≤ 3) := rfl
      rw [e5] at h1
      generalize colS (M 54) k = s at h1 r0 ⊢
      have hz : ∃ z : Int, z = (k : Int) := ⟨_, rfl⟩
      obtain ⟨z, hz⟩ := hz
      rw [← hz] at h1 e4 ⊢
      refine q_M_rule_4 hK x _ _ M (br_f (by omega) ?_)
      rw [e4, w32_s (z := s + 0) (by omega) (by omega), w32_s (z := s + 1) (by omega) (by omega)]
      refine mIn_i (by omega) (by omega) ⟨_, _, R_mIsColour 7 M _, fun q => ?_, fun q => ?_⟩
      · rw [q] at h1
        exact h1
      · rw [b2_t (c := 1 ≤ M 54 z ∧ M 54 z ≤ 3) (b2_n0.mp q)] at h1
        exact h1
  exact loop 36 0 (by omega)
theorem P_rule {M : mMem} (h : Inv M) (x : Int) : PairI 49 137 [vi x] M := by
  have hc := h.1
  have hp := Pg0_of h.2.1
  have n0 : 0 ≤ M 1 5 ∧ M 1 5 ≤ 5 := hc.2.1
  have p3 : M 54 39 = M 1 5 := hp.2.2.1
  have p5 : M 54 60 = M 1 6 := hp.2.2.2.2.1
  obtain ⟨n, hn⟩ : ∃ n : Nat, M 1 5 = n := ⟨(M 1 5).toNat, by omega⟩
  have hL := hc.2.2.1
  have pl := Pg_law h.2.1 hc
  rw [hn] at hL pl
  have s1 := col_split hc.1.1 36 (by omega)
  have r1 := cO_rng (M 2) 0 36
  have r4 := cO_rng (M 2) 4 36
  have e2 : colS (M 54) 36 = colS (M 2) 36 := sm_cong (fun k hk => by rw [hp.1 (k : Int) (by omega) (by omega)])
  have e4 : cO (pg M 0) 4 36 = cO (M 2) 4 36 := cO_cong (fun i h0 h1 => by
    show M 54 (0 + i) = M 2 i
    rw [Int.zero_add]
    exact hp.1 i h0 h1)
  have s1 : cO (M 2) 0 36 + cO (M 2) 4 36 + colS (M 2) 36 = 36 := s1
  by_cases c : 0 ≤ x ∧ x < 6
  · refine ⟨if x = 0 then M 1 5 else if x = 1 then colS (M 2) 36 else if x = 2 then cO (M 2) 4 36 else if x = 3 then M 1 6 else if x = 4 then hbF (fun l => rdL (M (1 + 3)) (M (1 + 1)) l) n else woS (M (1 + 3)) (M (1 + 1)) n, M, M, ⟨⟨by decide, Nat.le_of_ble_eq_true rfl⟩, fun K hK => q_L_rule_0 hK x M ⟨⟨fun q => ?_, fun q => ⟨_, _, R_cellsOf 8 M 1 (by omega) 0, _, _, R_cellsOf 8 M 1 (by omega) 4, ?_⟩, fun q => ⟨_, _, R_cellsOf 8 M 1 (by omega) 4, ?_⟩, fun q => ?_, fun q => ⟨_, _, R_heldBits 6 M 1 (by omega) n hn (by omega) hc.1 hL, ?_⟩, fun q => ⟨_, _, R_worth 6 M 1 (by omega) n hn (by omega) hc.1 hL, ?_⟩, trivial⟩, fun q => ?_⟩⟩, ⟨⟨by decide, Nat.le_of_ble_eq_true rfl⟩, fun K hK => q_M_rule_0 hK x M (rule_loop hK x (q_M_rule_4 hK x _ _ M (br_t (by decide) ⟨⟨fun q => ?_, fun q => ?_, fun q => ⟨_, _, R_holesOn 8 M 0 (by omega), ?_⟩, fun q => ?_, fun q => ⟨_, _, R_heldOn 6 M 0 n (by omega) (by rw [Int.zero_add, p3, hn]) (by omega) pl, ?_⟩, fun q => ⟨_, _, R_worthOn 6 M 0 n (by omega) (by rw [Int.zero_add, p3, hn]) (by omega) pl, ?_⟩, trivial⟩, fun q => ?_⟩)))⟩, h⟩
    · exact mret_i (if_pos q).symm rfl
    · rw [if_neg (by omega), if_pos (by omega)]
      refine mret_i ?_ rfl
      show w32 (w32 (36 - cO (M 2) 0 36) - cO (M 2) 4 36) = colS (M 2) 36
      rw [w32_s (z := 36 - cO (M 2) 0 36) (by omega) (by omega), w32_s (by omega) (by omega)]
      omega
    · rw [if_neg (by omega), if_neg (by omega), if_pos (by omega)]
      exact mret_i rfl rfl
    · rw [if_neg (by omega), if_neg (by omega), if_neg (by omega), if_pos (by omega)]
      exact mret_i rfl rfl
    · rw [if_neg (by omega), if_neg (by omega), if_neg (by omega), if_neg (by omega), if_pos (by omega)]
      exact mret_i rfl rfl
    · rw [if_neg (by omega), if_neg (by omega), if_neg (by omega), if_neg (by omega), if_neg (by omega)]
      exact mret_i rfl rfl
    · exact absurd q (by omega)
    · rw [if_pos (by omega)]
      exact mret_i p3 rfl
    · rw [if_neg (by omega), if_pos (by omega)]
      exact mret_i e2 rfl
    · rw [if_neg (by omega), if_neg (by omega), if_pos (by omega)]
      exact mret_i e4 rfl
    · rw [if_neg (by omega), if_neg (by omega), if_neg (by omega), if_pos (by omega)]
      exact mret_i p5 rfl
    · rw [if_neg (by omega), if_neg (by omega), if_neg (by omega), if_neg (by omega), if_pos (by omega)]
      exact mret_i (Pg_hb h.2.1 hn) rfl
    · rw [if_neg (by omega), if_neg (by omega), if_neg (by omega), if_neg (by omega), if_neg (by omega)]
      exact mret_i (Pg_wo h.2.1 hn) rfl
    · exact absurd q (by omega)
  · refine ⟨-1, M, M, ⟨⟨by decide, Nat.le_of_ble_eq_true rfl⟩, fun K hK => q_L_rule_0 hK x M ⟨⟨fun q => absurd q (by omega), fun q => absurd q (by omega), fun q => absurd q (by omega), fun q => absurd q (by omega), fun q => absurd q (by omega), fun q => absurd q (by omega), trivial⟩, fun q => mret_i rfl rfl⟩⟩, ⟨⟨by decide, Nat.le_of_ble_eq_true rfl⟩, fun K hK => q_M_rule_0 hK x M (rule_loop hK x (q_M_rule_4 hK x _ _ M (br_t (by decide) ⟨⟨fun q => absurd q (by omega), fun q => absurd q (by omega), fun q => absurd q (by omega), fun q => absurd q (by omega), fun q => absurd q (by omega), fun q => absurd q (by omega), trivial⟩, fun q => mret_i rfl rfl⟩)))⟩, h⟩
end
section
/-! PURE PROOFS 24: count, see -/
def lrC (f : Int → Int) (n : Nat) : Int := sm (fun k => b2 (f (k : Nat) = 1 ∧ f ((k : Nat) + 6) = 0)) n
def lrM (M : mMem) (f : Int → Int) : Nat → mMem
  | 0 => M
  | n + 1 => if f (n : Nat) = 1 ∧ f ((n : Nat) + 6) = 0 then mupd (lrM M f n) 59 (lrC f n) (n : Nat) else lrM M f n
theorem lrM_ne (M : mMem) (f : Int → Int) {k : Nat} (h : k ≠ 59) : ∀ n : Nat, lrM M f n k = M k
  | 0 => rfl
  | n + 1 => by
    show (if f (n : Nat) = 1 ∧ f ((n : Nat) + 6) = 0 then mupd (lrM M f n) 59 (lrC f n) (n : Nat) else lrM M f n) k = M k
    split
    · rw [mupd_ne _ _ _ h]
      exact lrM_ne M f h n
    · exact lrM_ne M f h n
theorem lrC_rng (f : Int → Int) (n : Nat) : 0 ≤ lrC f n ∧ lrC f n ≤ n := sm_rng (fun k => by
  have h := b2_01 (f (k : Nat) = 1 ∧ f ((k : Nat) + 6) = 0)
  omega) n
theorem R_laysRunning (d : Nat) (M : mMem) : mR3 (d + 1) 168 [vr 53] (S0, M) (some (vi (lrC (M 54) 30)), (S0, lrM M (M 54) 30)) := by
  refine ⟨⟨by decide, Nat.le_of_ble_eq_true rfl⟩, fun K hK => q_M_laysRunning_0 hK M ?_⟩
  have loop : ∀ (j k : Nat), k + j = 30 → K 4 [(0, vr 53), (1, vi (lrC (M 54) k)), (2, vi (k : Int))] [] (S0, lrM M (M 54) k) := by
    intro j
    induction j with
    | zero =>
      intro k hk
      refine q_M_laysRunning_4 hK _ _ _ (br_t (by omega) (mret_i ?_ ?_))
      · rw [show k = 30 by omega]
      · rw [show k = 30 by omega]
    | succ j ih =>
      intro k hk
      have h1 := ih (k + 1) (by omega)
      have r0 := lrC_rng (M 54) k
      have e4 : w32 ((k : Int) + 1) = ((k + 1 : Nat) : Int) := by rw [w32_s (by omega) (by omega)]; omega
      have e5 : lrC (M 54) (k + 1) = lrC (M 54) k + b2 (M 54 (k : Nat) = 1 ∧ M 54 ((k : Nat) + 6) = 0) := rfl
      have e6 : lrM M (M 54) (k + 1) = if M 54 (k : Nat) = 1 ∧ M 54 ((k : Nat) + 6) = 0 then mupd (lrM M (M 54) k) 59 (lrC (M 54) k) (k : Nat) else lrM M (M 54) k := rfl
      have e7 : lrM M (M 54) k 54 = M 54 := lrM_ne M _ (by decide) k
      rw [e5, e6] at h1
      generalize lrC (M 54) k = s at h1 r0 ⊢
      generalize lrM M (M 54) k = m at h1 e7 ⊢
      have hz : ∃ z : Int, z = (k : Int) := ⟨_, rfl⟩
      obtain ⟨z, hz⟩ := hz
      rw [← hz] at h1 e4 ⊢
      have e8 : w32 (z + 6) = z + 6 := w32_s (by omega) (by omega)
      refine q_M_laysRunning_4 hK _ _ _ (br_f (by omega) ?_)
      rw [e4, e8, e7, w32_s (z := s + 1) (by omega) (by omega)]
      refine mIn_i (by omega) (by omega) ⟨fun q => ?_, fun q => mIn_i (by omega) (by omega) ⟨fun q2 => ?_, fun q2 => mIn_i (by omega) (by omega) ?_⟩⟩
      · rw [b2_f (fun y => q y.1), if_neg (fun y => q y.1), Int.add_zero] at h1
        exact h1
      · rw [b2_f (fun y => q2 y.2), if_neg (fun y => q2 y.2), Int.add_zero] at h1
        exact h1
      · have y : M 54 z = 1 ∧ M 54 (z + 6) = 0 := ⟨Decidable.not_not.mp q, Decidable.not_not.mp q2⟩
        rw [b2_t y, if_pos y] at h1
        exact h1
  exact loop 30 0 (by omega)
theorem sh_at : ∀ k : Nat, k < 4 → S0.2.lookup (38, k) = some (45 + 2 * k) := by decide +kernel
theorem Inv_59 {M : mMem} (h : Inv M) (n : Nat) : Inv (lrM M (M 54) n) := by
  refine Inv_fr h ⟨fun k q => lrM_ne M _ (by unfold kept at q; omega) n, ?_, ?_, ?_, ?_, ?_, ?_, ?_, ?_, fun i _ _ => ?_⟩
  all_goals rw [lrM_ne M _ (by decide) n]
theorem P_count {M : mMem} (h : Inv M) (x : Int) : PairI 86 189 [vi x] M := by
  have hc := h.1
  have hp := Pg0_of h.2.1
  have i1 := h.2.2.1
  have i2 := h.2.2.2.1
  have ht := h.2.2.2.2.1
  have hs := h.2.2.2.2.2.1
  have hh : ShI M 0 := h.2.2.2.2.2.2.1 0 (by decide)
  have a1 : M 63 0 = M 17 1 := i1.2.1
  have a2 : M 63 1 = M 26 1 := i2.2.1
  have b1 : M 17 1 = 0 ∨ M 17 1 = 1 := i1.1
  have b2' : M 26 1 = 0 ∨ M 26 1 = 1 := i2.1
  have s1 : 0 ≤ M 3 1 ∧ M 3 1 ≤ 99 := hc.2.2.2.2.2 1 (by decide) (by decide)
  have s2 : 0 ≤ M 3 2 ∧ M 3 2 ≤ 99 := hc.2.2.2.2.2 2 (by decide) (by decide)
  have s3 : 0 ≤ M 3 3 ∧ M 3 3 ≤ 99 := hc.2.2.2.2.2 3 (by decide) (by decide)
  have t1 : M 54 36 + 20 = M 3 1 := hp.2.1 1 (by decide) (by decide)
  have t2 : M 54 37 + 20 = M 3 2 := hp.2.1 2 (by decide) (by decide)
  have t3 : M 54 38 + 20 = M 3 3 := hp.2.1 3 (by decide) (by decide)
  have u1 : M 53 5 = M 35 1 := ht.2.1
  have u2 : M 53 22 = M 0 13 := hs.2.1
  have sh : (M 45 2 = -1 ∧ M 64 0 = -4) ∨ (0 ≤ M 45 2 ∧ M 64 0 ≠ -4 ∧ M 65 0 = M 45 2) := by
    rcases hh with g | g
    · exact Or.inl g
    · have g1 : 0 ≤ M 45 2 ∧ M 45 2 ≤ 40 := g.1
      have g2 : 0 ≤ M 45 1 ∧ M 45 1 ≤ 2 := g.2.1
      have g3 : M 64 0 = M 45 1 := g.2.2.1
      have g4 : M 65 0 = M 45 2 := g.2.2.2.1
      exact Or.inr ⟨g1.1, by omega, g4⟩
  have loop : ∀ {K : Nat → mLV → List mVal → mHp → Prop} {lim : Nat × Nat} {scr : Nat × (Nat → Int)} {ret : Option mVal → mHp → Prop}, mClo m_M_count (mR3 9) lim scr ret K → K 4 [(0, vr 53), (1, vi x), (2, vi (M 3 1 + M 3 2 + M 3 3)), (3, vi 3)] [] (S0, M) → K 0 [(0, vr 53), (1, vi x)] [] (S0, M) := by
    intro K lim scr ret hK h3
    have k2 : K 4 [(0, vr 53), (1, vi x), (2, vi (M 3 1 + M 3 2)), (3, vi 2)] [] (S0, M) := by
      refine q_M_count_4 hK x _ _ M (br_f (by decide) (mIn_i (by decide) (by decide) ?_))
      rw [show w32 (36 + 2) = 38 from rfl, show w32 (2 + 1) = 3 from rfl, t3, w32_s (z := M 3 3) (by omega) (by omega), w32_s (by omega) (by omega)]
      exact h3
    have k1 : K 4 [(0, vr 53), (1, vi x), (2, vi (M 3 1)), (3, vi 1)] [] (S0, M) := by
      refine q_M_count_4 hK x _ _ M (br_f (by decide) (mIn_i (by decide) (by decide) ?_))
      rw [show w32 (36 + 1) = 37 from rfl, show w32 (1 + 1) = 2 from rfl, t2, w32_s (z := M 3 2) (by omega) (by omega), w32_s (by omega) (by omega)]
      exact k2
    have k0 : K 4 [(0, vr 53), (1, vi x), (2, vi 0), (3, vi 0)] [] (S0, M) := by
      refine q_M_count_4 hK x _ _ M (br_f (by decide) (mIn_i (by decide) (by decide) ?_))
      rw [show w32 (36 + 0) = 36 from rfl, show w32 (0 + 1) = 1 from rfl, t1, w32_s (z := M 3 1) (by omega) (by omega), Int.zero_add, w32_s (by omega) (by omega)]
      exact k1
    exact q_M_count_0 hK x M k0
  by_cases c : 0 ≤ x ∧ x < 6
  · by_cases c5 : x = 5
    · refine ⟨cB (M (1 + 1)) 1 0, M, lrM M (M 54) 30, ⟨⟨by decide, Nat.le_of_ble_eq_true rfl⟩, fun K hK => q_L_count_0 hK x M ⟨⟨fun q => absurd q (by omega), fun q => absurd q (by omega), fun q => absurd q (by omega), fun q => absurd q (by omega), fun q => absurd q (by omega), fun q => ⟨_, _, R_runningCells 8 M 1 (by omega) hc.1, mret_i rfl rfl⟩, trivial⟩, fun q => absurd q (by omega)⟩⟩, ⟨⟨by decide, Nat.le_of_ble_eq_true rfl⟩, fun K hK => loop hK (q_M_count_4 hK x _ _ M (br_t (by decide) ⟨⟨fun q => absurd q (by omega), fun q => absurd q (by omega), fun q => absurd q (by omega), fun q => absurd q (by omega), fun q => absurd q (by omega), fun q => ⟨_, _, R_laysRunning 8 M, mret_i ?_ rfl⟩, trivial⟩, fun q => absurd q (by omega)⟩))⟩, Inv_59 h 30⟩
      exact cB_cong hp.1 1 0
    · have f3 : M 64 0 = -4 → M 45 2 = -1 := by
        intro q
        rcases sh with g | g
        · exact g.1
        · exact absurd q g.2.1
      have f4 : M 64 0 ≠ -4 → 0 ≤ M 45 2 ∧ M 65 0 = M 45 2 := by
        intro q
        rcases sh with g | g
        · exact absurd g.2 q
        · exact ⟨g.1, g.2.2⟩
      refine ⟨if x = 0 then M 0 13 else if x = 1 then M 17 1 + M 26 1 else if x = 2 then M 35 1 else if x = 3 then (if 0 ≤ M 45 2 then M 45 2 else -4) else M 3 1 + M 3 2 + M 3 3, M, M, ⟨⟨by decide, Nat.le_of_ble_eq_true rfl⟩, fun K hK => q_L_count_0 hK x M ⟨⟨fun q => ?_, fun q => ?_, fun q => ?_, fun q => ⟨45, sh_at 0 (by decide), q_L_count_91 hK 45 M (Or.inl rfl) ⟨fun q2 => ⟨45, sh_at 0 (by decide), q_L_count_108 hK 45 M (Or.inl rfl) ?_⟩, fun q2 => ?_⟩⟩, fun q => ?_, fun q => absurd q (by omega), trivial⟩, fun q => absurd q (by omega)⟩⟩, ⟨⟨by decide, Nat.le_of_ble_eq_true rfl⟩, fun K hK => loop hK (q_M_count_4 hK x _ _ M (br_t (by decide) ⟨⟨fun q => ?_, fun q => ?_, fun q => ?_, fun q => ⟨fun q2 => ?_, fun q2 => ?_⟩, fun q => ?_, fun q => absurd q (by omega), trivial⟩, fun q => absurd q (by omega)⟩))⟩, h⟩
      · exact mret_i (if_pos q).symm rfl
      · refine ⟨fun y => q_L_count_60 hK 0 M ⟨fun y2 => mret_i ?_ rfl, fun y2 => mret_i ?_ rfl⟩, fun y => q_L_count_60 hK 1 M ⟨fun y2 => mret_i ?_ rfl, fun y2 => mret_i ?_ rfl⟩⟩
        all_goals (rw [if_neg (by omega), if_pos (by omega), w32_s (by omega) (by omega)]; omega)
      · rw [if_neg (by omega), if_neg (by omega), if_pos (by omega)]
        exact mret_i rfl rfl
      · rw [if_neg (by omega), if_neg (by omega), if_neg (by omega), if_pos (by omega), if_pos q2]
        exact mret_i rfl rfl
      · rw [if_neg (by omega), if_neg (by omega), if_neg (by omega), if_pos (by omega), if_neg q2]
        exact mret_i rfl rfl
      · rw [if_neg (by omega), if_neg (by omega), if_neg (by omega), if_neg (by omega)]
        refine mret_i ?_ rfl
        rw [w32_s (z := M 3 1 + M 3 2) (by omega) (by omega), w32_s (by omega) (by omega)]
      · rw [if_pos (by omega)]
        exact mret_i u2 rfl
      · refine ⟨fun y => q_M_count_87 hK 0 M ⟨fun y2 => mret_i ?_ rfl, fun y2 => mret_i ?_ rfl⟩, fun y => q_M_count_87 hK 1 M ⟨fun y2 => mret_i ?_ rfl, fun y2 => mret_i ?_ rfl⟩⟩
        all_goals (rw [if_neg (by omega), if_pos (by omega), w32_s (by omega) (by omega)]; omega)
      · rw [if_neg (by omega), if_neg (by omega), if_pos (by omega)]
        exact mret_i u1 rfl
      · rw [if_neg (by omega), if_neg (by omega), if_neg (by omega), if_pos (by omega), if_pos (f4 q2).1]
        exact mret_i (f4 q2).2 rfl
      · have g := f3 (Decidable.not_not.mp q2)
        rw [if_neg (by omega), if_neg (by omega), if_neg (by omega), if_pos (by omega), if_neg (by omega)]
        exact mret_i rfl rfl
      · rw [if_neg (by omega), if_neg (by omega), if_neg (by omega), if_neg (by omega)]
        exact mret_i rfl rfl
  · refine ⟨-1, M, M, ⟨⟨by decide, Nat.le_of_ble_eq_true rfl⟩, fun K hK => q_L_count_0 hK x M ⟨⟨fun q => absurd q (by omega), fun q => absurd q (by omega), fun q => absurd q (by omega), fun q => absurd q (by omega), fun q => absurd q (by omega), fun q => absurd q (by omega), trivial⟩, fun q => mret_i rfl rfl⟩⟩, ⟨⟨by decide, Nat.le_of_ble_eq_true rfl⟩, fun K hK => loop hK (q_M_count_4 hK x _ _ M (br_t (by decide) ⟨⟨fun q => absurd q (by omega), fun q => absurd q (by omega), fun q => absurd q (by omega), fun q => absurd q (by omega), fun q => absurd q (by omega), fun q => absurd q (by omega), trivial⟩, fun q => mret_i rfl rfl⟩))⟩, h⟩
end
section
/-! PURE PROOFS 25: see, keep, back -/
theorem P_see {M : mMem} (h : Inv M) (l v : Int) : PairI 73 172 [vi l, vi v] M := by
  have hc := h.1
  have hp := Pg0_of h.2.1
  have ht := h.2.2.2.2.1
  have hs := h.2.2.2.2.2.1
  have hh := h.2.2.2.2.2.2.1
  have ho := h.2.2.2.2.2.2.2.1
  have n0 : 0 ≤ M 1 5 ∧ M 1 5 ≤ 5 := hc.2.1
  have p3 : M 54 39 = M 1 5 := hp.2.2.1
  have s0 : 0 ≤ M 0 13 ∧ M 0 13 ≤ 6 := hs.1
  have s1 : M 53 22 = M 0 13 := hs.2.1
  by_cases c : (0 ≤ l ∧ l < M 1 5) ∧ 0 ≤ v ∧ v ≤ 60
  · by_cases c2 : M 0 13 < 6
    · have w1 : w32 (M 0 13 + 1) = M 0 13 + 1 := w32_s (by omega) (by omega)
      have x1 : mupd M 40 (M 0 13) l 0 13 = M 0 13 := by rw [mupd_ne _ _ _ (by decide)]
      have x2 : mupd (mupd M 40 (M 0 13) l) 41 (M 0 13) v 0 13 = M 0 13 := by rw [mupd_ne _ _ _ (by decide), x1]
      have a1 : mR3 10 73 [vr 0, vi l, vi v] (S0, M) (some (vi (M 0 13 + 1)), (S0, mupd (mupd (mupd M 40 (M 0 13) l) 41 (M 0 13) v) 0 13 (M 0 13 + 1))) := by
        refine ⟨⟨by decide, Nat.le_of_ble_eq_true rfl⟩, fun K hK => q_L_see_0 hK l v M ⟨_, _, R_isLaw 8 M l, br_f (fun q => b2_0.mp q c.1) (br_f (by omega) (br_t c.2.2 (br_t c2 (mIn_i (by omega) (by omega) ?_))))⟩⟩
        rw [x1, x2, w1]
        exact mIn_i (by omega) (by omega) (mret_i (by rw [mupd_at, fup_at]) rfl)
      have e0 : ∀ k : Nat, k ≠ 0 → k ≠ 40 → k ≠ 41 → mupd (mupd (mupd M 40 (M 0 13) l) 41 (M 0 13) v) 0 13 (M 0 13 + 1) k = M k := fun k h1 h2 h3 => by rw [mupd_ne _ _ _ h1, mupd_ne _ _ _ h3, mupd_ne _ _ _ h2]
      have f0 : mupd (mupd (mupd M 40 (M 0 13) l) 41 (M 0 13) v) 0 13 (M 0 13 + 1) 0 = fup (M 0) 13 (M 0 13 + 1) := by rw [mupd_at, mupd_ne _ _ _ (by decide), mupd_ne _ _ _ (by decide)]
      have f40 : mupd (mupd (mupd M 40 (M 0 13) l) 41 (M 0 13) v) 0 13 (M 0 13 + 1) 40 = fup (M 40) (M 0 13) l := by rw [mupd_ne _ _ _ (by decide), mupd_ne _ _ _ (by decide), mupd_at]
      have f41 : mupd (mupd (mupd M 40 (M 0 13) l) 41 (M 0 13) v) 0 13 (M 0 13 + 1) 41 = fup (M 41) (M 0 13) v := by rw [mupd_ne _ _ _ (by decide), mupd_at, mupd_ne _ _ _ (by decide)]
      generalize mupd (mupd (mupd M 40 (M 0 13) l) 41 (M 0 13) v) 0 13 (M 0 13 + 1) = m at a1 e0 f0 f40 f41
      generalize hn : M 0 13 = n at *
      have y1 : m 53 22 = n := by
        rw [e0 53 (by decide) (by decide) (by decide)]
        exact s1
      have i1 : w32 (2 * n) = 2 * n := w32_s (by omega) (by omega)
      have i2 : w32 (2 * n + 1) = 2 * n + 1 := w32_s (by omega) (by omega)
      have y2 : mupd m 60 (2 * n) l 53 22 = n := by rw [mupd_ne _ _ _ (by decide), y1]
      have y3 : mupd (mupd m 60 (2 * n) l) 60 (2 * n + 1) v 53 22 = n := by rw [mupd_ne _ _ _ (by decide), y2]
      have q39 : m 54 39 = M 1 5 := by
        rw [e0 54 (by decide) (by decide) (by decide)]
        exact p3
      have a2 : mR3 10 172 [vr 53, vi l, vi v] (S0, m) (some (vi (n + 1)), (S0, mupd (mupd (mupd m 60 (2 * n) l) 60 (2 * n + 1) v) 53 22 (n + 1))) := by
        refine ⟨⟨by decide, Nat.le_of_ble_eq_true rfl⟩, fun K hK => q_M_see_0 hK l v m ⟨_, _, R_mIsLaw 7 m l (by rw [q39]; exact n0), br_f (fun q => b2_0.mp q (by rw [q39]; exact c.1)) ⟨_, _, R_in 8 _ _ _ _, br_t (b2_n0.mpr (by omega)) (br_t (by omega) ?_)⟩⟩⟩
        rw [y1, i1, y2, i1, i2, y3, w1]
        exact mIn_i (by omega) (by omega) (mIn_i (by omega) (by omega) (mret_i (by rw [mupd_at, fup_at]) rfl))
      refine ⟨_, _, _, a1, a2, ?_⟩
      have d : ∀ k : Nat, k ≠ 60 → k ≠ 53 → mupd (mupd (mupd m 60 (2 * n) l) 60 (2 * n + 1) v) 53 22 (n + 1) k = m k := fun k h1 h2 => by rw [mupd_ne _ _ _ h2, mupd_ne _ _ _ h1, mupd_ne _ _ _ h1]
      have f60 : mupd (mupd (mupd m 60 (2 * n) l) 60 (2 * n + 1) v) 53 22 (n + 1) 60 = fup (fup (M 60) (2 * n) l) (2 * n + 1) v := by rw [mupd_ne _ _ _ (by decide), mupd_at, mupd_at, e0 60 (by decide) (by decide) (by decide)]
      have f53 : mupd (mupd (mupd m 60 (2 * n) l) 60 (2 * n + 1) v) 53 22 (n + 1) 53 = fup (M 53) 22 (n + 1) := by rw [mupd_at, mupd_ne _ _ _ (by decide), mupd_ne _ _ _ (by decide), e0 53 (by decide) (by decide) (by decide)]
      generalize mupd (mupd (mupd m 60 (2 * n) l) 60 (2 * n + 1) v) 53 22 (n + 1) = m' at d f60 f53
      have e : ∀ k : Nat, k ≠ 0 → k ≠ 40 → k ≠ 41 → k ≠ 60 → k ≠ 53 → m' k = M k := fun k h1 h2 h3 h4 h5 => by rw [d k h4 h5, e0 k h1 h2 h3]
      have g0 : m' 0 = fup (M 0) 13 (n + 1) := by rw [d 0 (by decide) (by decide), f0]
      have g40 : m' 40 = fup (M 40) n l := by rw [d 40 (by decide) (by decide), f40]
      have g41 : m' 41 = fup (M 41) n v := by rw [d 41 (by decide) (by decide), f41]
      refine Inv_ch h (fun k hk => e k (by omega) (by omega) (by omega) (by omega) (by omega)) (fun i _ _ => by rw [e 54 (by decide) (by decide) (by decide) (by decide) (by decide)]) ?_ ?_ (ShI_fr hh (fun k hk => e k (by omega) (by omega) (by omega) (by omega) (by omega))) ?_
      · exact TaI_fr ht (by rw [e 35 (by decide) (by decide) (by decide) (by decide) (by decide)]) (by rw [e 35 (by decide) (by decide) (by decide) (by decide) (by decide)]) (by rw [f53, fup_ne _ _ (by decide)]) (by rw [f53, fup_ne _ _ (by decide)]) (e 56 (by decide) (by decide) (by decide) (by decide) (by decide)) (e 36 (by decide) (by decide) (by decide) (by decide) (by decide))
      · unfold SeI
        rw [g0, f53, f60, g40, g41, fup_at, fup_at]
        refine ⟨by omega, rfl, fun i h0 h1 => ?_⟩
        by_cases q : i = n
        · rw [q, fup_ne _ _ (by omega), fup_at, fup_at, fup_at, fup_at]
          omega
        · have g := hs.2.2 i h0 (by omega)
          rw [fup_ne _ _ (by omega), fup_ne _ _ (by omega), fup_ne _ _ (by omega), fup_ne _ _ (by omega), fup_ne _ _ (by omega), fup_ne _ _ (by omega)]
          exact g
      · rw [g0, f53, fup_ne _ _ (by decide), fup_ne _ _ (by decide)]
        exact ho
    · refine ⟨-3, M, M, ⟨⟨by decide, Nat.le_of_ble_eq_true rfl⟩, fun K hK => q_L_see_0 hK l v M ⟨_, _, R_isLaw 8 M l, br_f (fun q => b2_0.mp q c.1) (br_f (by omega) (br_t c.2.2 (br_f c2 (mret_i rfl rfl))))⟩⟩, ⟨⟨by decide, Nat.le_of_ble_eq_true rfl⟩, fun K hK => q_M_see_0 hK l v M ⟨_, _, R_mIsLaw 7 M l (by rw [p3]; exact n0), br_f (fun q => b2_0.mp q (by rw [p3]; exact c.1)) ⟨_, _, R_in 8 _ _ _ _, br_t (b2_n0.mpr (by omega)) (br_f (fun q => q (by omega)) (mret_i rfl rfl))⟩⟩⟩, h⟩
  · refine ⟨-1, M, M, ⟨⟨by decide, Nat.le_of_ble_eq_true rfl⟩, fun K hK => q_L_see_0 hK l v M ⟨_, _, R_isLaw 8 M l, ⟨fun _ => mret_i rfl rfl, fun q => ⟨fun _ => mret_i rfl rfl, fun q2 => br_f (fun q3 => c ⟨b2_n0.mp q, by omega⟩) (mret_i rfl rfl)⟩⟩⟩⟩, ⟨⟨by decide, Nat.le_of_ble_eq_true rfl⟩, fun K hK => q_M_see_0 hK l v M ⟨_, _, R_mIsLaw 7 M l (by rw [p3]; exact n0), ⟨fun _ => mret_i rfl rfl, fun q => ⟨_, _, R_in 8 _ _ _ _, br_f (fun q2 => ?_) (mret_i rfl rfl)⟩⟩⟩⟩, h⟩
    have q := b2_n0.mp q
    have q2 := b2_n0.mp q2
    rw [p3] at q
    exact c ⟨q, by omega⟩
theorem Pg_same {M N : mMem} {b c : Nat} {p q : Int} (h : Pg N c q) (h5 : N c 5 ≤ 5) (h6 : N c 6 ≤ 8) (s : Same M b N c) (e : ∀ i : Int, 0 ≤ i → i < 85 → M 54 (p + i) = N 54 (q + i)) : Pg M b p := by
  obtain ⟨g1, g2, g3, g4, g5, g6⟩ := h
  obtain ⟨s1, s2, s3, s4, s5, f5, f6⟩ := s
  refine ⟨fun i h0 h1 => ?_, fun x h0 h1 => ?_, ?_, fun l x h0 h1 h2 h3 => ?_, ?_, fun i h0 h1 => ?_⟩
  · rw [e i h0 (by omega), s1 i h0 h1]
    exact g1 i h0 h1
  · rw [Int.add_assoc, e (35 + x) (by omega) (by omega), s2 x (by omega) (by omega), ← Int.add_assoc]
    exact g2 x h0 h1
  · rw [e 39 (by omega) (by omega), f5]
    exact g3
  · have d := g4 l x h0 (by omega) h2 h3
    rw [show p + 40 + 5 * x + l = p + (40 + 5 * x + l) by omega, e _ (by omega) (by omega), s3 _ (by omega) (by omega), ← d]
    congr 1
    omega
  · rw [e 60 (by omega) (by omega), f6]
    exact g5
  · have d := g6 i h0 (by omega)
    rw [show p + 61 + 3 * i = p + (61 + 3 * i) by omega, show p + 62 + 3 * i = p + (62 + 3 * i) by omega, show p + 63 + 3 * i = p + (63 + 3 * i) by omega, e (61 + 3 * i) (by omega) (by omega), e (62 + 3 * i) (by omega) (by omega), e (63 + 3 * i) (by omega) (by omega), s4 i h0 (by omega), s5 i h0 (by omega), show q + (61 + 3 * i) = q + 61 + 3 * i by omega, show q + (62 + 3 * i) = q + 62 + 3 * i by omega, show q + (63 + 3 * i) = q + 63 + 3 * i by omega]
    exact d
theorem ImI_fr2 {M N : mMem} {c b : Nat} {x p : Int} (h : ImI N c b x p) (hc : M c = N c) (h3 : M 63 x = N 63 x) (e : ∀ k, b ≤ k → k < b + 8 → M k = N k) (e4 : ∀ i, p ≤ i → i < p + 85 → M 54 i = N 54 i) : ImI M c b x p := by
  obtain ⟨g1, g2, g3⟩ := h
  unfold ImI
  rw [hc, h3]
  refine ⟨g1, g2, fun q => ?_⟩
  have g := g3 q
  have l := g.1.2.1
  have m := g.1.2.2.2.1
  exact ⟨Cht_eq g.1 e, Pg_fr g.2 m.2 l.2 e e4⟩
theorem keep_L {M : mMem} (k : Int) (c2 : Nat) (hk : (k = 0 ∧ c2 = 17) ∨ (k = 1 ∧ c2 = 26)) (hb : M c2 1 = 0 ∨ M c2 1 = 1) : mR3 10 80 [vr 0, vi k] (S0, M) (some (vi (M c2 1)), (S0, mupd (cpyM M (c2 + 1) 1) c2 1 1)) := by
  refine ⟨⟨by decide, Nat.le_of_ble_eq_true rfl⟩, fun K hK => ?_⟩
  have k39 : K 39 [(0, vr 0), (2, vr c2)] [vi (M c2 1)] (S0, M) := by
    refine q_L_keep_39 hK c2 _ M (by omega) ⟨_, R_copyFrom 8 M (c2 + 1) 1 (by unfold cpP; omega), mret_i rfl rfl⟩
  have k11 : K 11 [(0, vr 0), (1, vi k)] [] (S0, M) := by
    rcases hk with ⟨a, b⟩ | ⟨a, b⟩
    · subst b
      refine q_L_keep_11 hK k M (br_f (fun q => q a) ⟨fun q => ?_, fun q => ?_⟩)
      · rw [q] at k39
        exact k39
      · rw [show M 17 1 = 1 by omega] at k39
        exact k39
    · subst b
      refine q_L_keep_11 hK k M (br_t (by omega) ⟨fun q => ?_, fun q => ?_⟩)
      · rw [q] at k39
        exact k39
      · rw [show M 26 1 = 1 by omega] at k39
        exact k39
  exact q_L_keep_0 hK k M ⟨fun _ => k11, fun q => br_t (by omega) k11⟩
theorem keep_M {m : mMem} (k : Int) (hk : k = 0 ∨ k = 1) (hb : m 63 k = 0 ∨ m 63 k = 1) : mR3 10 183 [vr 53, vi k] (S0, m) (some (vi (m 63 k)), (S0, mupd (mcpy m 54 0 54 (85 * (k + 1)) 85) 63 k 1)) := by
  have i1 : w32 (85 * w32 (k + 1)) = 85 * (k + 1) := by rw [w32_s (z := k + 1) (by omega) (by omega), w32_s (by omega) (by omega)]
  refine ⟨⟨by decide, Nat.le_of_ble_eq_true rfl⟩, fun K hK => q_M_keep_0 hK k m ⟨_, _, R_in 8 _ _ _ _, br_t (b2_n0.mpr (by omega)) ?_⟩⟩
  rw [i1]
  refine ⟨_, R_copies 8 m 0 (85 * (k + 1)) (by omega) (by omega) (by omega), ?_⟩
  rw [mcpy_ne m 54 0 (k := 63) (85 * (k + 1)) 85 (by decide)]
  refine mIn_i (by omega) (by omega) ⟨fun q => mIn_i (by omega) (by omega) (mret_i q.symm rfl), fun q => mIn_i (by omega) (by omega) (mret_i (by omega) rfl)⟩
theorem keep_own {M m : mMem} {c2 : Nat} {k : Int} (hc : Cht M 1) (hp : Pg M 1 0) (hk : (k = 0 ∧ c2 = 17) ∨ (k = 1 ∧ c2 = 26)) (e : ∀ j : Nat, c2 + 1 ≤ j → j < c2 + 9 → m j = cpyM M (c2 + 1) 1 j) (f1 : m c2 1 = 1) (f63 : m 63 k = 1) (f54 : ∀ i : Int, 0 ≤ i → i < 85 → m 54 (85 * (k + 1) + i) = M 54 (0 + i)) : ImI m c2 (c2 + 1) k (85 * (k + 1)) := by
  have cp : cpP (c2 + 1) 1 := by
    unfold cpP
    omega
  have h5 := hc.2.1
  have h6 := hc.2.2.2.1
  have ce : Cht m (c2 + 1) := Cht_eq (cpy_cht cp hc) (fun j q0 q1 => e j q0 (by omega))
  refine ⟨Or.inr f1, by rw [f63, f1], fun _ => ⟨ce, ?_⟩⟩
  have sm := cpy_same M cp
  refine Pg_same hp h5.2 h6.2 ?_ f54
  unfold Same at sm ⊢
  rw [e (c2 + 1) (by omega) (by omega), e (c2 + 1 + 1) (by omega) (by omega), e (c2 + 1 + 2) (by omega) (by omega), e (c2 + 1 + 3) (by omega) (by omega), e (c2 + 1 + 4) (by omega) (by omega), e (c2 + 1 + 5) (by omega) (by omega)]
  exact sm
theorem P_keep {M : mMem} (h : Inv M) (k : Int) : PairI 80 183 [vi k] M := by
  by_cases c : k = 0 ∨ k = 1
  · obtain ⟨c2, hk⟩ : ∃ c2 : Nat, (k = 0 ∧ c2 = 17) ∨ (k = 1 ∧ c2 = 26) := by
      rcases c with c | c
      · exact ⟨17, Or.inl ⟨c, rfl⟩⟩
      · exact ⟨26, Or.inr ⟨c, rfl⟩⟩
    obtain ⟨i1, i2, i3, i4, i5, i6, i7, i8, i9, i10⟩ := h
    have hb : (M c2 1 = 0 ∨ M c2 1 = 1) ∧ M 63 k = M c2 1 := by
      rcases hk with ⟨a, b⟩ | ⟨a, b⟩
      · rw [a, b]
        exact ⟨i3.1, i3.2.1⟩
      · rw [a, b]
        exact ⟨i4.1, i4.2.1⟩
    have a1 := keep_L (M := M) k c2 hk hb.1
    have m63 : mupd (cpyM M (c2 + 1) 1) c2 1 1 63 = M 63 := by rw [mupd_ne _ _ _ (by omega), cpy_ne M (by omega)]
    have a2 := keep_M (m := mupd (cpyM M (c2 + 1) 1) c2 1 1) k c (by rw [m63, hb.2]; exact hb.1)
    rw [m63, hb.2] at a2
    refine ⟨_, _, _, a1, a2, ?_⟩
    have e : ∀ j : Nat, (j < c2 ∨ c2 + 9 ≤ j) → j ≠ 54 → j ≠ 63 → mupd (mcpy (mupd (cpyM M (c2 + 1) 1) c2 1 1) 54 0 54 (85 * (k + 1)) 85) 63 k 1 j = M j := fun j q0 q1 q2 => by rw [mupd_ne _ _ _ q2, mcpy_ne _ _ _ _ _ q1, mupd_ne _ _ _ (by omega), cpy_ne M (by omega)]
    have e1 : ∀ j : Nat, c2 + 1 ≤ j → j < c2 + 9 → mupd (mcpy (mupd (cpyM M (c2 + 1) 1) c2 1 1) 54 0 54 (85 * (k + 1)) 85) 63 k 1 j = cpyM M (c2 + 1) 1 j := fun j q0 q1 => by rw [mupd_ne _ _ _ (by omega), mcpy_ne _ _ _ _ _ (by omega), mupd_ne _ _ _ (by omega)]
    have f1 : mupd (mcpy (mupd (cpyM M (c2 + 1) 1) c2 1 1) 54 0 54 (85 * (k + 1)) 85) 63 k 1 c2 1 = 1 := by rw [mupd_ne _ _ _ (by omega), mcpy_ne _ _ _ _ _ (by omega), mupd_at, fup_at]
    have f63 : mupd (mcpy (mupd (cpyM M (c2 + 1) 1) c2 1 1) 54 0 54 (85 * (k + 1)) 85) 63 k 1 63 = fup (M 63) k 1 := by rw [mupd_at, mcpy_ne _ _ _ _ _ (by omega), m63]
    have m54 : mupd (cpyM M (c2 + 1) 1) c2 1 1 54 = M 54 := by rw [mupd_ne _ _ _ (by omega), cpy_ne M (by omega)]
    have f54 : ∀ i : Int, 0 ≤ i → i < 85 → mupd (mcpy (mupd (cpyM M (c2 + 1) 1) c2 1 1) 54 0 54 (85 * (k + 1)) 85) 63 k 1 54 (85 * (k + 1) + i) = M 54 (0 + i) := fun i q0 q1 => by
      rw [mupd_ne _ _ _ (by decide)]
      unfold mcpy
      rw [if_pos ⟨rfl, by omega, by omega⟩, m54]
      congr 1
      omega
    have g54 : ∀ i : Int, (i < 85 * (k + 1) ∨ 85 * (k + 1) + 85 ≤ i) → mupd (mcpy (mupd (cpyM M (c2 + 1) 1) c2 1 1) 54 0 54 (85 * (k + 1)) 85) 63 k 1 54 i = M 54 i := fun i q => by
      rw [mupd_ne _ _ _ (by decide)]
      unfold mcpy
      rw [if_neg (by omega), m54]
    generalize mupd (mcpy (mupd (cpyM M (c2 + 1) 1) c2 1 1) 54 0 54 (85 * (k + 1)) 85) 63 k 1 = m at e e1 f1 f63 f54 g54
    have own := keep_own i1 i2 hk e1 f1 (by rw [f63, fup_at]) f54
    have l := i1.2.1
    have n := i1.2.2.2.1
    have im : ImI m 17 18 0 85 ∧ ImI m 26 27 1 170 := by
      rcases hk with ⟨a, b⟩ | ⟨a, b⟩
      · subst b
        rw [a] at own f63 g54
        exact ⟨own, ImI_fr2 i4 (e 26 (by omega) (by decide) (by decide)) (by rw [f63, fup_ne _ _ (by decide)]) (fun j q0 q1 => e j (by omega) (by omega) (by omega)) (fun i q0 q1 => g54 i (by omega))⟩
      · subst b
        rw [a] at own f63 g54
        exact ⟨ImI_fr2 i3 (e 17 (by omega) (by decide) (by decide)) (by rw [f63, fup_ne _ _ (by decide)]) (fun j q0 q1 => e j (by omega) (by omega) (by omega)) (fun i q0 q1 => g54 i (by omega)), own⟩
    refine ⟨Cht_eq i1 (fun j q0 q1 => e j (by omega) (by omega) (by omega)), Pg_fr i2 n.2 l.2 (fun j q0 q1 => e j (by omega) (by omega) (by omega)) (fun i q0 q1 => g54 i (by omega)), im.1, im.2, ?_, ?_, ?_, ?_, ?_, ?_⟩
    · exact TaI_fr i5 (by rw [e 35 (by omega) (by omega) (by omega)]) (by rw [e 35 (by omega) (by omega) (by omega)]) (by rw [e 53 (by omega) (by omega) (by omega)]) (by rw [e 53 (by omega) (by omega) (by omega)]) (e 56 (by omega) (by omega) (by omega)) (e 36 (by omega) (by omega) (by omega))
    · exact SeI_fr i6 (by rw [e 0 (by omega) (by omega) (by omega)]) (by rw [e 53 (by omega) (by omega) (by omega)]) (e 60 (by omega) (by omega) (by omega)) (e 40 (by omega) (by omega) (by omega)) (e 41 (by omega) (by omega) (by omega))
    · exact ShI_fr i7 (fun j hk => e j (by omega) (by omega) (by omega))
    · rw [e 0 (by omega) (by omega) (by omega), e 53 (by omega) (by omega) (by omega)]
      exact i8
    · rw [e 57 (by omega) (by omega) (by omega)]
      exact i9
    · rw [e 58 (by omega) (by omega) (by omega)]
      exact i10
  · exact ⟨-1, M, M, ⟨⟨by decide, Nat.le_of_ble_eq_true rfl⟩, fun K hK => q_L_keep_0 hK k M (br_f (by omega) (br_f (by omega) (mret_i rfl rfl)))⟩, ⟨⟨by decide, Nat.le_of_ble_eq_true rfl⟩, fun K hK => q_M_keep_0 hK k M ⟨_, _, R_in 8 _ _ _ _, br_f (fun q => c (by have q := b2_n0.mp q; omega)) (mret_i rfl rfl)⟩⟩, h⟩
end
section
/-! PURE PROOFS 26: bits -/
theorem sh_amt : ∀ n : Nat, n < 32 → ((Int32.ofInt n &&& 31).toBitVec.smod 32).toNat = n := by decide +kernel
theorem jshr_n {a : Int} {n : Nat} (ha : inR a) (hn : n < 32) : jshr a n = a / 2 ^ n := by
  unfold jshr
  rw [← Int32.toInt_toBitVec, Int32.toBitVec_shiftRight, BitVec.sshiftRight_eq', sh_amt n hn, BitVec.toInt_sshiftRight, Int32.toInt_toBitVec, i_to ha, Int.shiftRight_eq_div_pow]
  rfl
theorem jshl_n {a : Int} {n : Nat} (hn : n < 32) : jshl a n = w32 (a * 2 ^ n) := by
  unfold jshl
  rw [← Int32.toInt_toBitVec, Int32.toBitVec_shiftLeft, BitVec.shiftLeft_eq', sh_amt n hn, BitVec.toInt_shiftLeft, Int32.toBitVec_ofInt, BitVec.toNat_ofInt, Int.natCast_shiftLeft, Int.shiftLeft_eq, ← w32_bm, Int.toNat_of_nonneg (Int.emod_nonneg _ (by decide))]
  show ((a % 4294967296) * 2 ^ n).bmod 4294967296 = (a * 2 ^ n).bmod 4294967296
  rw [← Int.emod_bmod, ← Int.emod_bmod (x := a * 2 ^ n)]
  congr 1
  show (a % 4294967296 * 2 ^ n) % 4294967296 = (a * 2 ^ n) % 4294967296
  rw [Int.mul_emod, Int.emod_emod, ← Int.mul_emod]
theorem w8_sh {a : Int} : jshr (jshl a 24) 24 = w8 a := by
  have h1 := jshl_n (a := a) (n := 24) (by decide)
  have h2 := jshr_n (a := jshl a 24) (n := 24) (by
    have h1 : jshl a 24 = w32 (a * 2 ^ 24) := h1
    rw [h1]
    unfold inR w32
    omega) (by decide)
  have h1 : jshl a 24 = w32 (a * 2 ^ 24) := h1
  have h2 : jshr (jshl a 24) 24 = jshl a 24 / 2 ^ 24 := h2
  rw [h2, h1]
  unfold w32 w8
  omega
theorem w16_sh {a : Int} : jshr (jshl a 16) 16 = w16 a := by
  have h1 : jshl a 16 = w32 (a * 2 ^ 16) := jshl_n (n := 16) (by decide)
  have h2 : jshr (jshl a 16) 16 = jshl a 16 / 2 ^ 16 := jshr_n (n := 16) (by
    rw [h1]
    unfold inR w32
    omega) (by decide)
  rw [h2, h1]
  unfold w32 w16
  omega
theorem msk_nat : ∀ k : Nat, k < 32 → (BitVec.ofInt 32 ((2 : Int) ^ k - 1)).toNat = 2 ^ k - 1 := by decide +kernel
theorem jand_m {a : Int} {k : Nat} (hk : k < 32) : jand a ((2 : Int) ^ k - 1) = a % 2 ^ k := by
  unfold jand
  rw [← Int32.toInt_toBitVec, Int32.toBitVec_and, Int32.toBitVec_ofInt, Int32.toBitVec_ofInt]
  have h : (BitVec.ofInt 32 a &&& BitVec.ofInt 32 ((2 : Int) ^ k - 1)).toNat = (a % 4294967296).toNat % 2 ^ k := by
    rw [BitVec.toNat_and, msk_nat k hk, BitVec.toNat_ofInt, Nat.and_two_pow_sub_one_eq_mod]
    rfl
  have h2 : (2 : Nat) ^ k ≤ 2 ^ 31 := Nat.pow_le_pow_right (by decide) (by omega)
  have h3 : (a % 4294967296).toNat % 2 ^ k < 2 ^ k := Nat.mod_lt _ (Nat.pow_pos (by decide))
  rw [BitVec.toInt_eq_toNat_of_lt (by rw [h]; omega), h]
  have h5 : (((a % 4294967296).toNat % 2 ^ k : Nat) : Int) = (a % 4294967296) % 2 ^ k := by
    rw [Int.natCast_emod, Int.toNat_of_nonneg (by omega)]
    simp
  rw [h5]
  have h6 : ((2 : Int) ^ k) ∣ 4294967296 := by
    have e : (4294967296 : Int) = 2 ^ k * 2 ^ (32 - k) := by
      rw [← Int.pow_add, show k + (32 - k) = 32 by omega]
      rfl
    exact ⟨_, e⟩
  exact Int.emod_emod_of_dvd a h6
theorem ush_amt : ∀ n : Nat, n < 32 → ((Int32.ofInt n).toUInt32 &&& Int32.toUInt32 31).toNat % 32 = n := by decide +kernel
theorem jushr_n {a : Int} {n : Nat} (h0 : 0 < n) (hn : n < 32) : jushr a n = (a % 4294967296) / 2 ^ n := by
  unfold jushr
  have h1 : ((Int32.ofInt a).toUInt32 >>> ((Int32.ofInt n).toUInt32 &&& Int32.toUInt32 31)).toNat = (a % 4294967296).toNat / 2 ^ n := by
    rw [UInt32.toNat_shiftRight, ush_amt n hn, Nat.shiftRight_eq_div_pow]
    have h2 : (Int32.ofInt a).toUInt32.toNat = (a % 4294967296).toNat := by
      show (BitVec.ofInt 32 a).toNat = _
      rw [BitVec.toNat_ofInt]
      rfl
    rw [h2]
  generalize (Int32.ofInt a).toUInt32 >>> ((Int32.ofInt n).toUInt32 &&& Int32.toUInt32 31) = u at h1
  have h3 : (2 : Nat) ^ 1 ≤ 2 ^ n := Nat.pow_le_pow_right (by decide) h0
  have h4 : (a % 4294967296).toNat / 2 ^ n ≤ (a % 4294967296).toNat / 2 := Nat.div_le_div_left (by omega) (by decide)
  have h5 : u.toInt32.toInt = u.toBitVec.toInt := by rw [← Int32.toInt_toBitVec, UInt32.toBitVec_toInt32]
  have h6 : u.toBitVec.toNat = u.toNat := rfl
  rw [h5, BitVec.toInt_eq_toNat_of_lt (by omega), h6, h1, Int.natCast_ediv, Int.toNat_of_nonneg (by omega)]
  simp
theorem ush_16 (a : Int) : jand (jushr a 16) 32767 = a / 65536 % 32768 := by
  have h : jushr a 16 = (a % 4294967296) / 2 ^ 16 := jushr_n (n := 16) (by decide) (by decide)
  have h2 : jand (jushr a 16) 32767 = jushr a 16 % 32768 := jand_m (k := 15) (by decide)
  rw [h2, h]
  omega
theorem sh_16 {a : Int} (h : inR a) : jand (jshr a 16) 32767 = a / 65536 % 32768 := by
  have h1 : jshr a 16 = a / 2 ^ 16 := jshr_n (n := 16) h (by decide)
  have h2 : jand (jshr a 16) 32767 = jshr a 16 % 32768 := jand_m (k := 15) (by decide)
  rw [h2, h1]
  omega
theorem jand_1 (a : Int) : jand a 1 = a % 2 := jand_m (k := 1) (by decide)
theorem jand_3 (a : Int) : jand a 3 = a % 4 := jand_m (k := 2) (by decide)
theorem jand_63 (a : Int) : jand a 63 = a % 64 := jand_m (k := 6) (by decide)
theorem jand_15 (a : Int) : jand a 32767 = a % 32768 := jand_m (k := 15) (by decide)
end
section
/-! PURE PROOFS 27: back, sheet, lay -/
theorem P_back {M : mMem} (h : Inv M) (k : Int) : PairI 81 184 [vi k] M := by
  by_cases c : k = 0 ∨ k = 1
  · obtain ⟨c2, hk⟩ : ∃ c2 : Nat, (k = 0 ∧ c2 = 17) ∨ (k = 1 ∧ c2 = 26) := by
      rcases c with c | c
      · exact ⟨17, Or.inl ⟨c, rfl⟩⟩
      · exact ⟨26, Or.inr ⟨c, rfl⟩⟩
    have im : ImI M c2 (c2 + 1) k (85 * (k + 1)) := by
      rcases hk with ⟨a, b⟩ | ⟨a, b⟩
      · rw [a, b]
        exact h.2.2.1
      · rw [a, b]
        exact h.2.2.2.1
    obtain ⟨j1, j2, j3⟩ := im
    have i1 : w32 (85 * w32 (k + 1)) = 85 * (k + 1) := by rw [w32_s (z := k + 1) (by omega) (by omega), w32_s (by omega) (by omega)]
    have st : ∀ {K : Nat → mLV → List mVal → mHp → Prop} {cal : mCal} {lim : Nat × Nat} {scr : Nat × (Nat → Int)} {ret : Option mVal → mHp → Prop}, mClo m_L_back cal lim scr ret K → K 26 [(0, vr 0)] [vr c2] (S0, M) → K 0 [(0, vr 0), (1, vi k)] [] (S0, M) := by
      intro K cal lim scr ret hK k26
      rcases hk with ⟨a, b⟩ | ⟨a, b⟩
      · subst b
        exact q_L_back_0 hK k M (br_t a (br_f (fun q => q a) k26))
      · subst b
        exact q_L_back_0 hK k M (br_f (by omega) (br_t a (br_t (by omega) k26)))
    by_cases c3 : M c2 1 = 0
    · refine ⟨-2, M, M, ⟨⟨by decide, Nat.le_of_ble_eq_true rfl⟩, fun K hK => st hK (q_L_back_26 hK c2 M (by omega) (br_f (fun q => q c3) (mret_i rfl rfl)))⟩, ⟨⟨by decide, Nat.le_of_ble_eq_true rfl⟩, fun K hK => q_M_back_0 hK k M ⟨_, _, R_in 8 _ _ _ _, br_t (b2_n0.mpr (by omega)) (mIn_i (by omega) (by omega) (br_f (fun q => q (by omega)) (mret_i rfl rfl)))⟩⟩, h⟩
    · obtain ⟨ci, pi⟩ := j3 (by omega)
      have cp : cpP 1 (c2 + 1) := by
        unfold cpP
        omega
      have cc := cpy_cht cp ci
      have b5 : 0 ≤ M (c2 + 1) 5 ∧ M (c2 + 1) 5 ≤ 5 := ci.2.1
      have b6 : 0 ≤ M (c2 + 1) 6 ∧ M (c2 + 1) 6 ≤ 8 := ci.2.2.2.1
      obtain ⟨n, hn⟩ : ∃ n : Nat, M (c2 + 1) 5 = n := ⟨(M (c2 + 1) 5).toNat, by omega⟩
      have n1 : cpyM M 1 (c2 + 1) 1 5 = n := by rw [cpy_5 M (by omega), hn]
      have hL := cc.2.2.1
      rw [n1] at hL
      have m63 : cpyM M 1 (c2 + 1) 63 = M 63 := cpy_ne M (by omega)
      have m54 : cpyM M 1 (c2 + 1) 54 = M 54 := cpy_ne M (by omega)
      have a1 : mR3 10 81 [vr 0, vi k] (S0, M) (some (vi (woS (cpyM M 1 (c2 + 1) (1 + 3)) (cpyM M 1 (c2 + 1) (1 + 1)) n)), (S0, cpyM M 1 (c2 + 1))) :=
        ⟨⟨by decide, Nat.le_of_ble_eq_true rfl⟩, fun K hK => st hK (q_L_back_26 hK c2 M (by omega) (br_t c3 ⟨_, R_copyFrom 8 M 1 (c2 + 1) cp, _, _, R_worth 6 _ 1 (by omega) n n1 (by omega) cc.1 hL, mret_i rfl rfl⟩))⟩
      have sm := cpy_same M cp
      have e1 : ∀ j : Nat, j ≠ 54 → mcpy (cpyM M 1 (c2 + 1)) 54 (85 * (k + 1)) 54 0 85 j = cpyM M 1 (c2 + 1) j := fun j q => mcpy_ne _ _ _ _ _ q
      have f54 : ∀ i : Int, 0 ≤ i → i < 85 → mcpy (cpyM M 1 (c2 + 1)) 54 (85 * (k + 1)) 54 0 85 54 (0 + i) = M 54 (85 * (k + 1) + i) := fun i q0 q1 => by
        unfold mcpy
        rw [if_pos ⟨rfl, by omega, by omega⟩, m54]
        congr 1
        omega
      have g54 : ∀ i : Int, 85 ≤ i → mcpy (cpyM M 1 (c2 + 1)) 54 (85 * (k + 1)) 54 0 85 54 i = M 54 i := fun i q => by
        unfold mcpy
        rw [if_neg (by omega), m54]
      have cl := R_copies 8 (cpyM M 1 (c2 + 1)) (85 * (k + 1)) 0 (by omega) (by omega) (by omega)
      generalize mcpy (cpyM M 1 (c2 + 1)) 54 (85 * (k + 1)) 54 0 85 = m at e1 f54 g54 cl
      have sm2 : Same m 1 M (c2 + 1) := by
        unfold Same at sm ⊢
        rw [e1 1 (by decide), e1 (1 + 1) (by decide), e1 (1 + 2) (by decide), e1 (1 + 3) (by decide), e1 (1 + 4) (by decide), e1 (1 + 5) (by decide)]
        exact sm
      have iv : Inv m := by
        refine Inv_c1 h (Cht_eq cc (fun j q0 q1 => e1 j (by omega))) (Pg_same pi b5.2 b6.2 sm2 f54) (fun j q0 q1 => ?_) (fun i q0 q1 => g54 i q0)
        rw [e1 j q1, cpy_ne M (by omega)]
      have k5 : m 1 5 = n := by rw [e1 1 (by decide), n1]
      have pw := Pg_wo iv.2.1 k5
      have pl := Pg_law iv.2.1 iv.1
      rw [k5] at pl
      rw [e1 (1 + 3) (by decide), e1 (1 + 1) (by decide)] at pw
      have k39 : m 54 (0 + 39) = n := by
        have q := iv.2.1.2.2.1
        rw [q, k5]
      refine ⟨_, _, _, a1, ⟨⟨by decide, Nat.le_of_ble_eq_true rfl⟩, fun K hK => q_M_back_0 hK k _ ⟨_, _, R_in 8 _ _ _ _, br_t (b2_n0.mpr (by omega)) ?_⟩⟩, iv⟩
      rw [i1, m63]
      exact mIn_i (by omega) (by omega) (br_t (by omega) ⟨_, cl, _, _, R_worthOn 6 m 0 n (by omega) k39 (by omega) pl, mret_i pw rfl⟩)
  · exact ⟨-1, M, M, ⟨⟨by decide, Nat.le_of_ble_eq_true rfl⟩, fun K hK => q_L_back_0 hK k M (br_f (by omega) (br_f (by omega) (mret_i rfl rfl)))⟩, ⟨⟨by decide, Nat.le_of_ble_eq_true rfl⟩, fun K hK => q_M_back_0 hK k M ⟨_, _, R_in 8 _ _ _ _, br_f (fun q => c (by have q := b2_n0.mp q; omega)) (mret_i rfl rfl)⟩⟩, h⟩
theorem mfill_ne (M : mMem) {k j : Nat} (n v : Int) (h : j ≠ k) : mfill M k n v j = M j := by
  funext i
  unfold mfill
  rw [if_neg (fun q => h q.1)]
theorem mfill_at (M : mMem) {k : Nat} {n v i : Int} (h0 : 0 ≤ i) (h1 : i < n) : mfill M k n v k i = v := by
  unfold mfill
  rw [if_pos ⟨rfl, h0, h1⟩]
theorem R_renew (d : Nat) (M : mMem) (c : Nat) (hc : c = 45 ∨ c = 47 ∨ c = 49 ∨ c = 51) (a n : Int) : mR3 (d + 2) 26 [vr c, vi a, vi n] (S0, M) (none, (S0, mupd (mupd (mfill M (c + 1) (40 : Nat) 0) c 1 a) c 2 n)) := by
  have hs : S0.1[c + 1]? = some (0, 40) := by
    rcases hc with h | h | h | h <;> rw [h] <;> decide +kernel
  exact ⟨⟨by decide, Nat.le_of_ble_eq_true rfl⟩, fun K hK => q_S_renew_0 hK c a n M hc ⟨_, R_fill d S0 M (c + 1) 40 0 hs (by decide), mret_n rfl⟩⟩
def shF (M : mMem) (k : Int) (n : Int) : mMem := fun r i => if r = 66 ∧ 40 * k ≤ i ∧ i < 40 * k + n then 0 else M r i
theorem shF_0 (M : mMem) (k : Int) : shF M k 0 = M := by
  funext r i
  unfold shF
  rw [if_neg (by omega)]
theorem shF_s (M : mMem) (k : Int) {n : Int} (h : 0 ≤ n) : mupd (shF M k n) 66 (40 * k + n) 0 = shF M k (n + 1) := by
  funext r i
  unfold mupd shF
  by_cases h1 : r = 66
  · by_cases h2 : i = 40 * k + n
    · rw [if_pos ⟨h1, h2⟩, if_pos ⟨h1, by omega, by omega⟩]
    · rw [if_neg (fun q => h2 q.2)]
      by_cases h3 : 40 * k ≤ i ∧ i < 40 * k + n
      · rw [if_pos ⟨h1, h3⟩, if_pos ⟨h1, by omega, by omega⟩]
      · rw [if_neg (fun q => h3 q.2), if_neg (fun q => h3 ⟨q.2.1, by omega⟩)]
  · rw [if_neg (fun q => h1 q.1), if_neg (fun q => h1 q.1), if_neg (fun q => h1 q.1)]
theorem shF_ne (M : mMem) (k n : Int) {r : Nat} (h : r ≠ 66) : shF M k n r = M r := by
  funext i
  unfold shF
  rw [if_neg (fun q => h q.1)]
theorem P_sheet {M : mMem} (h : Inv M) (k a n : Int) : PairI 82 185 [vi k, vi a, vi n] M := by
  by_cases c : (0 ≤ k ∧ k < 4) ∧ 0 ≤ a ∧ a ≤ 2
  · by_cases c1 : n ≤ 40
    · by_cases c2 : 0 ≤ n
      · obtain ⟨kk, hk⟩ : ∃ kk : Nat, k = kk := ⟨k.toNat, by omega⟩
        have tn : k.toNat = kk := by omega
        have hcc : 45 + 2 * kk = 45 ∨ 45 + 2 * kk = 47 ∨ 45 + 2 * kk = 49 ∨ 45 + 2 * kk = 51 := by omega
        have a1 : mR3 10 82 [vr 0, vi k, vi a, vi n] (S0, M) (some (vi 1), (S0, mupd (mupd (mfill M (45 + 2 * kk + 1) (40 : Nat) 0) (45 + 2 * kk) 1 a) (45 + 2 * kk) 2 n)) := by
          refine ⟨⟨by decide, Nat.le_of_ble_eq_true rfl⟩, fun K hK => q_L_sheet_0 hK k a n M ⟨_, _, R_isSheet 8 M k, br_f (fun q => b2_0.mp q c.1) ⟨_, _, R_isLane 8 M a, br_f (fun q => b2_0.mp q c.2) (br_t c1 (br_t c2 (mIn_i (by omega) (by omega) ⟨45 + 2 * kk, ?_, ?_⟩)))⟩⟩⟩
          · rw [tn]
            exact sh_at kk (by omega)
          · exact q_L_sheet_35 hK a n _ M hcc ⟨_, R_renew 7 M _ hcc a n, mret_i rfl rfl⟩
        have e0 : ∀ j : Nat, j ≠ 45 + 2 * kk → j ≠ 46 + 2 * kk → mupd (mupd (mfill M (45 + 2 * kk + 1) (40 : Nat) 0) (45 + 2 * kk) 1 a) (45 + 2 * kk) 2 n j = M j := fun j q0 q1 => by rw [mupd_ne _ _ _ q0, mupd_ne _ _ _ q0, mfill_ne _ _ _ (by omega)]
        have f1 : mupd (mupd (mfill M (45 + 2 * kk + 1) (40 : Nat) 0) (45 + 2 * kk) 1 a) (45 + 2 * kk) 2 n (45 + 2 * kk) 1 = a := by rw [mupd_at, fup_ne _ _ (by decide), mupd_at, fup_at]
        have f2 : mupd (mupd (mfill M (45 + 2 * kk + 1) (40 : Nat) 0) (45 + 2 * kk) 1 a) (45 + 2 * kk) 2 n (45 + 2 * kk) 2 = n := by rw [mupd_at, fup_at]
        have f3 : ∀ i : Int, 0 ≤ i → i < 40 → mupd (mupd (mfill M (45 + 2 * kk + 1) (40 : Nat) 0) (45 + 2 * kk) 1 a) (45 + 2 * kk) 2 n (46 + 2 * kk) i = 0 := fun i q0 q1 => by
          rw [mupd_ne _ _ _ (by omega), mupd_ne _ _ _ (by omega), show 46 + 2 * kk = 45 + 2 * kk + 1 by omega]
          exact mfill_at M q0 (by omega)
        generalize mupd (mupd (mfill M (45 + 2 * kk + 1) (40 : Nat) 0) (45 + 2 * kk) 1 a) (45 + 2 * kk) 2 n = m at a1 e0 f1 f2 f3
        have a2 : mR3 10 185 [vr 53, vi k, vi a, vi n] (S0, m) (some (vi 1), (S0, shF (mupd (mupd m 64 k a) 65 k n) k 40)) := by
          refine ⟨⟨by decide, Nat.le_of_ble_eq_true rfl⟩, fun K hK => ?_⟩
          have loop : ∀ (j : Nat) (i : Int), 0 ≤ i → i + j = 40 → K 56 [(0, vr 53), (1, vi k), (4, vi i)] [] (S0, shF (mupd (mupd m 64 k a) 65 k n) k i) := by
            intro j
            induction j with
            | zero =>
              intro i h0 hi
              refine q_M_sheet_56 hK k i _ (br_t (by omega) (mret_i rfl ?_))
              rw [show i = 40 by omega]
            | succ j ih =>
              intro i h0 hi
              have h1 := ih (i + 1) (by omega) (by omega)
              refine q_M_sheet_56 hK k i _ (br_f (by omega) ?_)
              rw [w32_s (z := 40 * k) (by omega) (by omega), w32_s (z := 40 * k + i) (by omega) (by omega), w32_s (z := i + 1) (by omega) (by omega), shF_s _ _ h0]
              exact mIn_i (by omega) (by omega) h1
          have l0 := loop 40 0 (by omega) (by omega)
          rw [shF_0] at l0
          exact q_M_sheet_0 hK k a n m ⟨_, _, R_in 8 _ _ _ _, br_f (fun q => b2_0.mp q (by omega)) ⟨_, _, R_in 8 _ _ _ _, br_f (fun q => b2_0.mp q (by omega)) (br_t c1 (br_t c2 (mIn_i (by omega) (by omega) (mIn_i (by omega) (by omega) l0))))⟩⟩
        refine ⟨_, _, _, a1, a2, ?_⟩
        have e : ∀ j : Nat, j ≠ 45 + 2 * kk → j ≠ 46 + 2 * kk → j ≠ 64 → j ≠ 65 → j ≠ 66 → shF (mupd (mupd m 64 k a) 65 k n) k 40 j = M j := fun j q0 q1 q2 q3 q4 => by rw [shF_ne _ _ _ q4, mupd_ne _ _ _ q3, mupd_ne _ _ _ q2, e0 j q0 q1]
        have d : ∀ j : Nat, j ≠ 64 → j ≠ 65 → j ≠ 66 → shF (mupd (mupd m 64 k a) 65 k n) k 40 j = m j := fun j q2 q3 q4 => by rw [shF_ne _ _ _ q4, mupd_ne _ _ _ q3, mupd_ne _ _ _ q2]
        have f64 : shF (mupd (mupd m 64 k a) 65 k n) k 40 64 = fup (M 64) k a := by rw [shF_ne _ _ _ (by decide), mupd_ne _ _ _ (by decide), mupd_at, e0 64 (by omega) (by omega)]
        have f65 : shF (mupd (mupd m 64 k a) 65 k n) k 40 65 = fup (M 65) k n := by rw [shF_ne _ _ _ (by decide), mupd_at, mupd_ne _ _ _ (by decide), e0 65 (by omega) (by omega)]
        have f66 : ∀ i : Int, (i < 40 * k ∨ 40 * k + 40 ≤ i) → shF (mupd (mupd m 64 k a) 65 k n) k 40 66 i = M 66 i := fun i q => by
          unfold shF
          rw [if_neg (by omega), mupd_ne _ _ _ (by decide), mupd_ne _ _ _ (by decide), e0 66 (by omega) (by omega)]
        have g66 : ∀ i : Int, 40 * k ≤ i → i < 40 * k + 40 → shF (mupd (mupd m 64 k a) 65 k n) k 40 66 i = 0 := fun i q0 q1 => by
          unfold shF
          rw [if_pos ⟨rfl, q0, q1⟩]
        generalize shF (mupd (mupd m 64 k a) 65 k n) k 40 = m' at e d f64 f65 f66 g66
        have ht := h.2.2.2.2.1
        have hs := h.2.2.2.2.2.1
        have hh := h.2.2.2.2.2.2.1
        have ho := h.2.2.2.2.2.2.2.1
        have r : ∀ j : Nat, (j < 45 ∨ (53 ≤ j ∧ j < 64)) → m' j = M j := fun j q => e j (by omega) (by omega) (by omega) (by omega) (by omega)
        refine Inv_ch h (fun j hj => r j (by omega)) (fun i _ _ => by rw [r 54 (by omega)]) ?_ ?_ ?_ ?_
        · exact TaI_fr ht (by rw [r 35 (by omega)]) (by rw [r 35 (by omega)]) (by rw [r 53 (by omega)]) (by rw [r 53 (by omega)]) (r 56 (by omega)) (r 36 (by omega))
        · exact SeI_fr hs (by rw [r 0 (by omega)]) (by rw [r 53 (by omega)]) (r 60 (by omega)) (r 40 (by omega)) (r 41 (by omega))
        · intro j hj
          by_cases q : j = kk
          · subst q
            refine Or.inr ⟨?_, ?_, ?_, ?_, fun i q0 q1 => ?_⟩
            · rw [d _ (by omega) (by omega) (by omega), f2]
              omega
            · rw [d _ (by omega) (by omega) (by omega), f1]
              omega
            · rw [f64, hk, fup_at, d (45 + 2 * j) (by omega) (by omega) (by omega), f1]
            · rw [f65, hk, fup_at, d (45 + 2 * j) (by omega) (by omega) (by omega), f2]
            · rw [g66 _ (by omega) (by omega), d _ (by omega) (by omega) (by omega), f3 i q0 q1]
          · have g := hh j hj
            unfold ShI at g ⊢
            rw [e (45 + 2 * j) (by omega) (by omega) (by omega) (by omega) (by omega), e (46 + 2 * j) (by omega) (by omega) (by omega) (by omega) (by omega), f64, f65, fup_ne _ _ (by omega), fup_ne _ _ (by omega)]
            rcases g with g | ⟨g1, g2, g3, g4, g5⟩
            · exact Or.inl g
            · refine Or.inr ⟨g1, g2, g3, g4, fun i q0 q1 => ?_⟩
              rw [f66 _ (by omega)]
              exact g5 i q0 q1
        · rw [r 0 (by omega), r 53 (by omega)]
          exact ho
      · refine ⟨-14, M, M, ⟨⟨by decide, Nat.le_of_ble_eq_true rfl⟩, fun K hK => q_L_sheet_0 hK k a n M ⟨_, _, R_isSheet 8 M k, br_f (fun q => b2_0.mp q c.1) ⟨_, _, R_isLane 8 M a, br_f (fun q => b2_0.mp q c.2) (br_t c1 (br_f c2 (mret_i rfl rfl)))⟩⟩⟩, ⟨⟨by decide, Nat.le_of_ble_eq_true rfl⟩, fun K hK => q_M_sheet_0 hK k a n M ⟨_, _, R_in 8 _ _ _ _, br_f (fun q => b2_0.mp q (by omega)) ⟨_, _, R_in 8 _ _ _ _, br_f (fun q => b2_0.mp q (by omega)) (br_t c1 (br_f c2 (mret_i rfl rfl)))⟩⟩⟩, h⟩
    · refine ⟨-1, M, M, ⟨⟨by decide, Nat.le_of_ble_eq_true rfl⟩, fun K hK => q_L_sheet_0 hK k a n M ⟨_, _, R_isSheet 8 M k, br_f (fun q => b2_0.mp q c.1) ⟨_, _, R_isLane 8 M a, br_f (fun q => b2_0.mp q c.2) (br_f c1 (mret_i rfl rfl))⟩⟩⟩, ⟨⟨by decide, Nat.le_of_ble_eq_true rfl⟩, fun K hK => q_M_sheet_0 hK k a n M ⟨_, _, R_in 8 _ _ _ _, br_f (fun q => b2_0.mp q (by omega)) ⟨_, _, R_in 8 _ _ _ _, br_f (fun q => b2_0.mp q (by omega)) (br_f c1 (mret_i rfl rfl))⟩⟩⟩, h⟩
  · by_cases c1 : 0 ≤ k ∧ k < 4
    · have c2 : ¬ (0 ≤ a ∧ a ≤ 2) := fun q => c ⟨c1, q⟩
      exact ⟨-1, M, M, ⟨⟨by decide, Nat.le_of_ble_eq_true rfl⟩, fun K hK => q_L_sheet_0 hK k a n M ⟨_, _, R_isSheet 8 M k, br_f (fun q => b2_0.mp q c1) ⟨_, _, R_isLane 8 M a, br_t (b2_f c2) (mret_i rfl rfl)⟩⟩⟩, ⟨⟨by decide, Nat.le_of_ble_eq_true rfl⟩, fun K hK => q_M_sheet_0 hK k a n M ⟨_, _, R_in 8 _ _ _ _, br_f (fun q => b2_0.mp q (by omega)) ⟨_, _, R_in 8 _ _ _ _, br_t (b2_f (by omega)) (mret_i rfl rfl)⟩⟩⟩, h⟩
    · exact ⟨-1, M, M, ⟨⟨by decide, Nat.le_of_ble_eq_true rfl⟩, fun K hK => q_L_sheet_0 hK k a n M ⟨_, _, R_isSheet 8 M k, br_t (b2_f c1) (mret_i rfl rfl)⟩⟩, ⟨⟨by decide, Nat.le_of_ble_eq_true rfl⟩, fun K hK => q_M_sheet_0 hK k a n M ⟨_, _, R_in 8 _ _ _ _, br_t (b2_f (by omega)) (mret_i rfl rfl)⟩⟩, h⟩
end
section
/-! PURE PROOFS 28: lay -/
theorem R_faultAt (d : Nat) (M : mMem) (c : Nat) (hc : c = 45 ∨ c = 47 ∨ c = 49 ∨ c = 51) (i n : Int) (hl : -1 ≤ M c 2 ∧ M c 2 ≤ 40) (hn : 0 ≤ n ∧ n ≤ 40) : mR3 (d + 1) 29 [vr c, vi i, vi n] (S0, M) (some (vi (if M c 2 < 0 then 1 else if 0 ≤ i ∧ i ≤ M c 2 - n then 0 else 2)), (S0, M)) := by
  refine ⟨⟨by decide, Nat.le_of_ble_eq_true rfl⟩, fun K hK => q_S_faultAt_0 hK c i n M hc ?_⟩
  rw [w32_s (z := M c 2 - n) (by omega) (by omega)]
  refine ⟨fun q => ⟨fun q2 => mret_i ?_ rfl, fun q2 => ⟨fun q3 => mret_i ?_ rfl, fun q3 => mret_i ?_ rfl⟩⟩, fun q => mret_i ?_ rfl⟩
  · rw [if_neg (by omega), if_neg (by omega)]
  · rw [if_neg (by omega), if_pos (by omega)]
  · rw [if_neg (by omega), if_neg (by omega)]
  · rw [if_pos (by omega)]
def lv (l v : Int) : Int := if l = 0 then w8 v else if l = 1 then w16 v else v
theorem R_set (d : Nat) (M : mMem) (c : Nat) (hc : c = 45 ∨ c = 47 ∨ c = 49 ∨ c = 51) (i v : Int) (hi : 0 ≤ i ∧ i < 40) : mR3 (d + 1) 27 [vr c, vi i, vi v] (S0, M) (none, (S0, mupd M (c + 1) i (lv (M c 1) v))) := by
  refine ⟨⟨by decide, Nat.le_of_ble_eq_true rfl⟩, fun K hK => q_S_set_0 hK c i v M hc ⟨fun q => ⟨fun q2 => mIn_i (by omega) (by omega) (mret_n ?_), fun q2 => mIn_i (by omega) (by omega) (mret_n ?_)⟩, fun q => mIn_i (by omega) (by omega) (mret_n ?_)⟩⟩
  · unfold lv
    rw [if_neg q, if_neg q2]
  · unfold lv
    rw [if_neg q, if_pos (Decidable.not_not.mp q2)]
  · unfold lv
    rw [if_pos (Decidable.not_not.mp q)]
theorem P_lay {M : mMem} (h : Inv M) (k i v : Int) : PairI 83 186 [vi k, vi i, vi v] M := by
  by_cases c : 0 ≤ k ∧ k < 4
  · obtain ⟨kk, hk⟩ : ∃ kk : Nat, k = kk := ⟨k.toNat, by omega⟩
    have tn : k.toNat = kk := by omega
    have hcc : 45 + 2 * kk = 45 ∨ 45 + 2 * kk = 47 ∨ 45 + 2 * kk = 49 ∨ 45 + 2 * kk = 51 := by omega
    have hh := h.2.2.2.2.2.2.1
    have sh := hh kk (by omega)
    unfold ShI at sh
    rw [← hk] at sh
    have st : ∀ {K : Nat → mLV → List mVal → mHp → Prop} {lim : Nat × Nat} {scr : Nat × (Nat → Int)} {ret : Option mVal → mHp → Prop}, mClo m_L_lay (mR3 9) lim scr ret K → K 15 [(2, vi i), (3, vi v)] [vr (45 + 2 * kk)] (S0, M) → K 0 [(0, vr 0), (1, vi k), (2, vi i), (3, vi v)] [] (S0, M) := by
      intro K lim scr ret hK k15
      refine q_L_lay_0 hK k i v M ⟨_, _, R_isSheet 8 M k, br_t (b2_n0.mpr c) (mIn_i (by omega) (by omega) ⟨45 + 2 * kk, ?_, k15⟩)⟩
      rw [tn]
      exact sh_at kk (by omega)
    rcases sh with ⟨s1, s2⟩ | ⟨s1, s2, s3, s4, s5⟩
    · have g := R_faultAt 8 M _ hcc i 1 (by omega) (by omega)
      rw [if_pos (by omega)] at g
      refine ⟨-11, M, M, ⟨⟨by decide, Nat.le_of_ble_eq_true rfl⟩, fun K hK => st hK (q_L_lay_15 hK i v _ M hcc ⟨_, _, g, br_f (by decide) (mret_i rfl rfl)⟩)⟩, ⟨⟨by decide, Nat.le_of_ble_eq_true rfl⟩, fun K hK => q_M_lay_0 hK k i v M ⟨_, _, R_in 8 _ _ _ _, br_t (b2_n0.mpr (by omega)) (mIn_i (by omega) (by omega) (br_f (fun q => q s2) (mret_i rfl rfl)))⟩⟩, h⟩
    · by_cases c2 : 0 ≤ i ∧ i < M (45 + 2 * kk) 2
      · have g := R_faultAt 8 M _ hcc i 1 (by omega) (by omega)
        rw [if_neg (by omega), if_pos (by omega)] at g
        have w1 : w32 (M 65 k - 1) = M 65 k - 1 := w32_s (by omega) (by omega)
        have w2 : w32 (w32 (40 * k) + i) = 40 * k + i := by rw [w32_s (z := 40 * k) (by omega) (by omega), w32_s (by omega) (by omega)]
        have a1 : mR3 10 83 [vr 0, vi k, vi i, vi v] (S0, M) (some (vi 1), (S0, mupd M (45 + 2 * kk + 1) i (lv (M (45 + 2 * kk) 1) v))) :=
          ⟨⟨by decide, Nat.le_of_ble_eq_true rfl⟩, fun K hK => st hK (q_L_lay_15 hK i v _ M hcc ⟨_, _, g, br_t rfl ⟨_, R_set 8 M _ hcc i v (by omega), mret_i rfl rfl⟩⟩)⟩
        have e0 : ∀ j : Nat, j ≠ 46 + 2 * kk → mupd M (45 + 2 * kk + 1) i (lv (M (45 + 2 * kk) 1) v) j = M j := fun j q => mupd_ne _ _ _ (by omega)
        have f0 : mupd M (45 + 2 * kk + 1) i (lv (M (45 + 2 * kk) 1) v) (46 + 2 * kk) = fup (M (46 + 2 * kk)) i (lv (M (45 + 2 * kk) 1) v) := by rw [show 45 + 2 * kk + 1 = 46 + 2 * kk by omega, mupd_at]
        generalize mupd M (45 + 2 * kk + 1) i (lv (M (45 + 2 * kk) 1) v) = m at a1 e0 f0
        have m64 : m 64 = M 64 := e0 64 (by omega)
        have m65 : m 65 = M 65 := e0 65 (by omega)
        have a2 : mR3 10 186 [vr 53, vi k, vi i, vi v] (S0, m) (some (vi 1), (S0, mupd m 66 (40 * k + i) (lv (M (45 + 2 * kk) 1) v))) := by
          refine ⟨⟨by decide, Nat.le_of_ble_eq_true rfl⟩, fun K hK => q_M_lay_0 hK k i v m ⟨_, _, R_in 8 _ _ _ _, br_t (b2_n0.mpr (by omega)) ?_⟩⟩
          rw [m64, m65, w1, w2, s3]
          refine mIn_i (by omega) (by omega) (br_t (by omega) (mIn_i (by omega) (by omega) ⟨_, _, R_in 8 _ _ _ _, br_t (b2_n0.mpr (by omega)) (mIn_i (by omega) (by omega) ?_)⟩))
          rw [m64, s3]
          refine ⟨fun q => mIn_i (by omega) (by omega) ⟨fun q2 => mIn_i (by omega) (by omega) (mret_i rfl ?_), fun q2 => mIn_i (by omega) (by omega) (mret_i rfl ?_)⟩, fun q => mIn_i (by omega) (by omega) (mret_i rfl ?_)⟩
          · unfold lv
            rw [if_neg q, if_neg q2]
          · unfold lv
            rw [if_neg q, if_pos (Decidable.not_not.mp q2), w16_sh]
          · unfold lv
            rw [if_pos (Decidable.not_not.mp q), w8_sh]
        refine ⟨_, _, _, a1, a2, ?_⟩
        generalize lv (M (45 + 2 * kk) 1) v = u at f0
        have e : ∀ j : Nat, j ≠ 46 + 2 * kk → j ≠ 66 → mupd m 66 (40 * k + i) u j = M j := fun j q0 q1 => by rw [mupd_ne _ _ _ q1, e0 j q0]
        have g0 : mupd m 66 (40 * k + i) u (46 + 2 * kk) = fup (M (46 + 2 * kk)) i u := by rw [mupd_ne _ _ _ (by omega), f0]
        have g66 : mupd m 66 (40 * k + i) u 66 = fup (M 66) (40 * k + i) u := by rw [mupd_at, e0 66 (by omega)]
        generalize mupd m 66 (40 * k + i) u = m' at e g0 g66
        have ht := h.2.2.2.2.1
        have hs := h.2.2.2.2.2.1
        have ho := h.2.2.2.2.2.2.2.1
        have r : ∀ j : Nat, (j < 45 ∨ (53 ≤ j ∧ j < 66)) → m' j = M j := fun j q => e j (by omega) (by omega)
        refine Inv_ch h (fun j hj => r j (by omega)) (fun i _ _ => by rw [r 54 (by omega)]) ?_ ?_ ?_ ?_
        · exact TaI_fr ht (by rw [r 35 (by omega)]) (by rw [r 35 (by omega)]) (by rw [r 53 (by omega)]) (by rw [r 53 (by omega)]) (r 56 (by omega)) (r 36 (by omega))
        · exact SeI_fr hs (by rw [r 0 (by omega)]) (by rw [r 53 (by omega)]) (r 60 (by omega)) (r 40 (by omega)) (r 41 (by omega))
        · intro j hj
          by_cases q : j = kk
          · subst q
            unfold ShI
            rw [e (45 + 2 * j) (by omega) (by omega), g0, g66, e 64 (by omega) (by omega), e 65 (by omega) (by omega), ← hk]
            refine Or.inr ⟨s1, s2, s3, s4, fun x q0 q1 => ?_⟩
            have g5 := s5 x q0 q1
            unfold fup
            split <;> split <;> omega
          · have g := hh j hj
            unfold ShI at g ⊢
            rw [e (45 + 2 * j) (by omega) (by omega), e (46 + 2 * j) (by omega) (by omega), e 64 (by omega) (by omega), e 65 (by omega) (by omega), g66]
            rcases g with g | ⟨g1, g2, g3, g4, g5⟩
            · exact Or.inl g
            · refine Or.inr ⟨g1, g2, g3, g4, fun x q0 q1 => ?_⟩
              rw [fup_ne _ _ (by omega)]
              exact g5 x q0 q1
        · rw [r 0 (by omega), r 53 (by omega)]
          exact ho
      · have g := R_faultAt 8 M _ hcc i 1 (by omega) (by omega)
        rw [if_neg (by omega), if_neg (by omega)] at g
        have w1 : w32 (M 65 k - 1) = M 65 k - 1 := w32_s (by omega) (by omega)
        refine ⟨-12, M, M, ⟨⟨by decide, Nat.le_of_ble_eq_true rfl⟩, fun K hK => st hK (q_L_lay_15 hK i v _ M hcc ⟨_, _, g, br_f (by decide) (mret_i rfl rfl)⟩)⟩, ⟨⟨by decide, Nat.le_of_ble_eq_true rfl⟩, fun K hK => q_M_lay_0 hK k i v M ⟨_, _, R_in 8 _ _ _ _, br_t (b2_n0.mpr (by omega)) (mIn_i (by omega) (by omega) (br_t (by omega) (mIn_i (by omega) (by omega) ⟨_, _, R_in 8 _ _ _ _, br_f (fun q => ?_) (mret_i rfl rfl)⟩)))⟩⟩, h⟩
        have q := b2_n0.mp q
        rw [w1] at q
        omega
  · exact ⟨-1, M, M, ⟨⟨by decide, Nat.le_of_ble_eq_true rfl⟩, fun K hK => q_L_lay_0 hK k i v M ⟨_, _, R_isSheet 8 M k, br_f (fun q => c (b2_n0.mp q)) (mret_i rfl rfl)⟩⟩, ⟨⟨by decide, Nat.le_of_ble_eq_true rfl⟩, fun K hK => q_M_lay_0 hK k i v M ⟨_, _, R_in 8 _ _ _ _, br_f (fun q => c (by have q := b2_n0.mp q; omega)) (mret_i rfl rfl)⟩⟩, h⟩
end
section
/-! PURE PROOFS 29: a run with a promise on its end -/
def Ex1 {ι : Type} (Q : ι → Prop) (p : ι → Prop) : Prop := ∃ i, Q i ∧ p i
section
variable {ι : Type} {Q : ι → Prop}
theorem mI_ex {st : List mVal} {k : Int → List mVal → Prop} {k' : ι → Int → List mVal → Prop} (h : ∀ x r, k x r → Ex1 Q fun i => k' i x r) : mI st k → Ex1 Q fun i => mI st (k' i) := by
  unfold mI; split <;> first | exact h _ _ | exact False.elim
theorem mL_ex {st : List mVal} {k : Int → List mVal → Prop} {k' : ι → Int → List mVal → Prop} (h : ∀ x r, k x r → Ex1 Q fun i => k' i x r) : mL st k → Ex1 Q fun i => mL st (k' i) := by
  unfold mL; split <;> first | exact h _ _ | exact False.elim
theorem mR_ex {st : List mVal} {k : Nat → List mVal → Prop} {k' : ι → Nat → List mVal → Prop} (h : ∀ x r, k x r → Ex1 Q fun i => k' i x r) : mR st k → Ex1 Q fun i => mR st (k' i) := by
  unfold mR; split <;> first | exact h _ _ | exact False.elim
theorem mA_ex {st : List mVal} {k : mVal → List mVal → Prop} {k' : ι → mVal → List mVal → Prop} (h : ∀ x r, k x r → Ex1 Q fun i => k' i x r) : mA st k → Ex1 Q fun i => mA st (k' i) := by
  unfold mA; split <;> first | exact h _ _ | exact False.elim
theorem lgetI_ex {lv : mLV} {i : Nat} {k : Int → Prop} {k' : ι → Int → Prop} (h : ∀ x, k x → Ex1 Q fun j => k' j x) : lgetI lv i k → Ex1 Q fun j => lgetI lv i (k' j) := by
  unfold lgetI; split <;> first | exact h _ | exact False.elim
theorem lgetL_ex {lv : mLV} {i : Nat} {k : Int → Prop} {k' : ι → Int → Prop} (h : ∀ x, k x → Ex1 Q fun j => k' j x) : lgetL lv i k → Ex1 Q fun j => lgetL lv i (k' j) := by
  unfold lgetL; split <;> first | exact h _ | exact False.elim
theorem lgetA_ex {lv : mLV} {i : Nat} {k : Nat ⊕ Nat → Prop} {k' : ι → Nat ⊕ Nat → Prop} (h : ∀ x, k x → Ex1 Q fun j => k' j x) : lgetA lv i k → Ex1 Q fun j => lgetA lv i (k' j) := by
  unfold lgetA; split <;> first | exact h _ | exact False.elim
theorem mB_ex {b : Bool} {p : Prop} {p' : ι → Prop} (h : p → Ex1 Q p') : mB b p → Ex1 Q fun i => mB b (p' i) := by cases b <;> first | exact h | exact False.elim
theorem mIn_ex {i : Int} {n : Nat} {p : Prop} {p' : ι → Prop} (h : p → Ex1 Q p') : mIn i n p → Ex1 Q fun j => mIn i n (p' j) := fun q => by
  obtain ⟨j, a, b⟩ := h (mIn_e q).2
  exact ⟨j, a, mIn_i (mIn_e q).1.1 (mIn_e q).1.2 b⟩
theorem mBo_ex {v : Int} {p : Prop} {p' : ι → Prop} (h : p → Ex1 Q p') : mBo v p → Ex1 Q fun j => mBo v (p' j) := fun q => by
  obtain ⟨j, a, b⟩ := h (mBo_e q).2
  exact ⟨j, a, mBo_i (mBo_e q).1 b⟩
theorem mTag_ex {sh : mSh} {k t : Nat} {c : Nat → Prop} {c' : ι → Nat → Prop} (h : ∀ n, c n → Ex1 Q fun i => c' i n) : mTag sh k t c → Ex1 Q fun i => mTag sh k t (c' i) := by
  unfold mTag; split
  · rename_i t' n _
    cases (t' == t) <;> first | exact h _ | exact False.elim
  · exact False.elim
theorem mRef_ex {sh : mSh} {k j : Nat} {c : Nat → Prop} {c' : ι → Nat → Prop} (h : ∀ n, c n → Ex1 Q fun i => c' i n) : mRef sh k j c → Ex1 Q fun i => mRef sh k j (c' i) := by
  unfold mRef; split <;> first | exact h _ | exact False.elim
theorem and_ex {a b : Prop} {b' : ι → Prop} (h : b → Ex1 Q b') : a ∧ b → Ex1 Q fun i => a ∧ b' i := fun q => by
  obtain ⟨j, x, y⟩ := h q.2
  exact ⟨j, x, q.1, y⟩
theorem br_ex {c a b : Prop} {a' b' : ι → Prop} (h0 : a → Ex1 Q a') (h : b → Ex1 Q b') : (c → a) ∧ (¬ c → b) → Ex1 Q fun i => (c → a' i) ∧ (¬ c → b' i) := fun q => by
  by_cases z : c
  · obtain ⟨j, x, y⟩ := h0 (q.1 z)
    exact ⟨j, x, fun _ => y, fun w => absurd z w⟩
  · obtain ⟨j, x, y⟩ := h (q.2 z)
    exact ⟨j, x, fun w => absurd w z, fun _ => y⟩
theorem ex_ex {α : Type} {p : α → Prop} {p' : ι → α → Prop} (h : ∀ x, p x → Ex1 Q fun i => p' i x) : (∃ x, p x) → Ex1 Q fun i => ∃ x, p' i x := fun ⟨x, q⟩ => by
  obtain ⟨j, a, b⟩ := h x q
  exact ⟨j, a, x, b⟩
theorem bif_ex {b : Bool} {p q : Prop} {p' q' : ι → Prop} (h : p → Ex1 Q p') (h2 : q → Ex1 Q q') : (bif b then p else q) → Ex1 Q fun i => (bif b then p' i else q' i) := by cases b <;> first | exact h | exact h2
theorem swP_o {k : Nat → Prop} {x : Int} : ∀ (ts : List Nat) (j : Nat), (x < j ∨ (j : Int) + ts.length ≤ x) → swP k x j ts
  | [], _, _ => trivial
  | t :: ts, j, h => by
    have e : (((t :: ts).length : Nat) : Int) = (ts.length : Int) + 1 := by simp
    exact ⟨fun q => absurd h (by omega), swP_o ts (j + 1) (by omega)⟩
theorem swP_ex {k : Nat → Prop} {k' : ι → Nat → Prop} (h : ∀ t, k t → Ex1 Q fun i => k' i t) {x : Int} : ∀ (ts : List Nat) (j : Nat), (j : Int) ≤ x → x < (j : Int) + ts.length → swP k x j ts → Ex1 Q fun i => swP (k' i) x j ts
  | [], j, h0, h1 => by
    have e : ((([] : List Nat).length : Nat) : Int) = 0 := rfl
    exact absurd h1 (by omega)
  | t :: ts, j, h0, h1 => fun q => by
    have e : (((t :: ts).length : Nat) : Int) = (ts.length : Int) + 1 := by simp
    by_cases z : x = (j : Int)
    · obtain ⟨i, a, b⟩ := h t (q.1 z)
      exact ⟨i, a, fun _ => b, swP_o ts (j + 1) (by omega)⟩
    · obtain ⟨i, a, b⟩ := swP_ex h ts (j + 1) (by omega) (by omega) q.2
      exact ⟨i, a, fun w => absurd w z, b⟩
theorem sw_ex {k : Nat → Prop} {k' : ι → Nat → Prop} {a : Prop} {a' : ι → Prop} (h : ∀ t, k t → Ex1 Q fun i => k' i t) (h2 : a → Ex1 Q a') {x : Int} {ts : List Nat} : swP k x 0 ts ∧ ((x < 0 ∨ (ts.length : Int) ≤ x) → a) → Ex1 Q fun i => swP (k' i) x 0 ts ∧ ((x < 0 ∨ (ts.length : Int) ≤ x) → a' i) := fun q => by
  by_cases z : x < 0 ∨ (ts.length : Int) ≤ x
  · obtain ⟨i, c, d⟩ := h2 (q.2 z)
    exact ⟨i, c, swP_o ts 0 (by omega), fun _ => d⟩
  · obtain ⟨i, c, d⟩ := swP_ex h ts 0 (by omega) (by omega) q.1
    exact ⟨i, c, d, fun w => absurd w z⟩
variable {cal : mCal} {lb : List (Nat × List Nat)} {lim : Nat × Nat} {scr : Nat × (Nat → Int)} {ret : Option mVal → mHp → Prop} {ret' : ι → Option mVal → mHp → Prop} {K : Nat → mLV → List mVal → mHp → Prop} {K' : ι → Nat → mLV → List mVal → mHp → Prop}
set_option maxHeartbeats 4000000 in
theorem mrun_ex (hr : ∀ v h, ret v h → Ex1 Q fun i => ret' i v h) (hk : ∀ t lv st h, K t lv st h → Ex1 Q fun i => K' i t lv st h) : ∀ (rows : List mRow) (pc : Nat) (lv : mLV) (st : List mVal) (h : mHp), mrun cal lb lim scr ret K rows pc lv st h → Ex1 Q fun i => mrun cal lb lim scr (ret' i) (K' i) rows pc lv st h := by
  intro rows
  induction rows with
  | nil => intro pc lv st h; exact hk _ _ _ _
  | cons row rows ih =>
    intro pc lv st h
    obtain ⟨ins, len, a, b, z, ts⟩ := row
    cases ins <;> first
      | exact False.elim
      | (simp only [mrun]
         repeat' first
          | exact ih _ _ _ _
          | exact hk _ _ _ _
          | exact hr _ _
          | exact False.elim
          | refine mI_ex (fun _ _ => ?_)
          | refine mL_ex (fun _ _ => ?_)
          | refine mR_ex (fun _ _ => ?_)
          | refine mA_ex (fun _ _ => ?_)
          | refine lgetI_ex (fun _ => ?_)
          | refine lgetL_ex (fun _ => ?_)
          | refine lgetA_ex (fun _ => ?_)
          | refine mTag_ex (fun _ => ?_)
          | refine mRef_ex (fun _ => ?_)
          | refine mB_ex ?_
          | refine mIn_ex ?_
          | refine mBo_ex ?_
          | refine bif_ex ?_ ?_
          | refine ex_ex (fun _ => ?_)
          | refine sw_ex (fun _ => hk _ _ _ _) (hk _ _ _ _)
          | refine br_ex ?_ ?_
          | refine and_ex ?_
          | split)
end
end
section
/-! PURE PROOFS 30: methods by what they promise -/
theorem mR3_ex {d y : Nat} {as : List mVal} {M : mMem} {P : Option mVal → mMem → Prop} (hg : y < 191 ∧ (as.map mcat).sum ≤ mxl.getD y 0) (h : ∀ K, mClo (mP y) (mR3 d) (S0.1.length, mtot S0.1) (0, fun _ => 0) (fun v g => g.1 = S0 ∧ P v g.2) K → K 0 (margs 0 as) [] (S0, M)) : ∃ v m, P v m ∧ mR3 (d + 1) y as (S0, M) (v, (S0, m)) := by
  have q := h (fun t lv st g => Ex1 (fun r : Option mVal × mMem => P r.1 r.2) (fun r => ∀ K', mClo (mP y) (mR3 d) (S0.1.length, mtot S0.1) (0, fun _ => 0) (mret (r.1, (S0, r.2))) K' → K' t lv st g)) (by
    intro i pc rows hi lv st g q
    obtain ⟨r, hr, q'⟩ := mrun_ex (Q := fun r : Option mVal × mMem => P r.1 r.2) (ret' := fun r => mret (r.1, (S0, r.2))) (K' := fun r t lv st g => ∀ K', mClo (mP y) (mR3 d) (S0.1.length, mtot S0.1) (0, fun _ => 0) (mret (r.1, (S0, r.2))) K' → K' t lv st g) (fun v g hv => ⟨(v, g.2), hv.2, rfl, by
      obtain ⟨g1, g2⟩ := g
      have e : g1 = S0 := hv.1
      rw [e]⟩) (fun t lv st g z => z) rows pc lv st g q
    exact ⟨r, hr, fun K' hK' => hK' i pc rows hi lv st g (mrun_mo (fun t lv st g z => z K' hK') rows pc lv st g q')⟩)
  obtain ⟨r, hr, q'⟩ := q
  exact ⟨r.1, r.2, hr, hg, q'⟩
/-- y ends with an int for which P holds -/
def mI3 (d y : Nat) (as : List mVal) (M : mMem) (P : Int → mMem → Prop) : Prop := ∃ v m, P v m ∧ mR3 d y as (S0, M) (some (vi v), (S0, m))
def mL3 (d y : Nat) (as : List mVal) (M : mMem) (P : Int → mMem → Prop) : Prop := ∃ v m, P v m ∧ mR3 d y as (S0, M) (some (vl v), (S0, m))
def mN3 (d y : Nat) (as : List mVal) (M : mMem) (P : mMem → Prop) : Prop := ∃ m, P m ∧ mR3 d y as (S0, M) (none, (S0, m))
def rI (P : Int → mMem → Prop) : Option mVal → mHp → Prop := fun o g => g.1 = S0 ∧ ∃ v, o = some (vi v) ∧ P v g.2
def rL (P : Int → mMem → Prop) : Option mVal → mHp → Prop := fun o g => g.1 = S0 ∧ ∃ v, o = some (vl v) ∧ P v g.2
def rN (P : mMem → Prop) : Option mVal → mHp → Prop := fun o g => g.1 = S0 ∧ o = none ∧ P g.2
theorem rI_i {P : Int → mMem → Prop} {v : Int} {m : mMem} (h : P v m) : rI P (some (vi v)) (S0, m) := ⟨rfl, v, rfl, h⟩
theorem rL_i {P : Int → mMem → Prop} {v : Int} {m : mMem} (h : P v m) : rL P (some (vl v)) (S0, m) := ⟨rfl, v, rfl, h⟩
theorem rN_i {P : mMem → Prop} {m : mMem} (h : P m) : rN P none (S0, m) := ⟨rfl, rfl, h⟩
theorem mI3_i {d y : Nat} {as : List mVal} {M : mMem} {P : Int → mMem → Prop} (hg : y < 191 ∧ (as.map mcat).sum ≤ mxl.getD y 0) (h : ∀ K, mClo (mP y) (mR3 d) (S0.1.length, mtot S0.1) (0, fun _ => 0) (rI P) K → K 0 (margs 0 as) [] (S0, M)) : mI3 (d + 1) y as M P := by
  obtain ⟨v, m, ⟨w, e, p⟩, r⟩ := mR3_ex (P := fun o m => ∃ v, o = some (vi v) ∧ P v m) hg h
  rw [e] at r
  exact ⟨w, m, p, r⟩
theorem mL3_i {d y : Nat} {as : List mVal} {M : mMem} {P : Int → mMem → Prop} (hg : y < 191 ∧ (as.map mcat).sum ≤ mxl.getD y 0) (h : ∀ K, mClo (mP y) (mR3 d) (S0.1.length, mtot S0.1) (0, fun _ => 0) (rL P) K → K 0 (margs 0 as) [] (S0, M)) : mL3 (d + 1) y as M P := by
  obtain ⟨v, m, ⟨w, e, p⟩, r⟩ := mR3_ex (P := fun o m => ∃ v, o = some (vl v) ∧ P v m) hg h
  rw [e] at r
  exact ⟨w, m, p, r⟩
theorem mN3_i {d y : Nat} {as : List mVal} {M : mMem} {P : mMem → Prop} (hg : y < 191 ∧ (as.map mcat).sum ≤ mxl.getD y 0) (h : ∀ K, mClo (mP y) (mR3 d) (S0.1.length, mtot S0.1) (0, fun _ => 0) (rN P) K → K 0 (margs 0 as) [] (S0, M)) : mN3 (d + 1) y as M P := by
  obtain ⟨v, m, ⟨e, p⟩, r⟩ := mR3_ex (P := fun o m => o = none ∧ P m) hg h
  rw [e] at r
  exact ⟨m, p, r⟩
/-- going on behind a call -/
theorem cI {d y : Nat} {as : List mVal} {M : mMem} {P : Int → mMem → Prop} {C : Int → mMem → Prop} (h : mI3 d y as M P) (k : ∀ v m, P v m → C v m) : ∃ v m, mR3 d y as (S0, M) (some (vi v), (S0, m)) ∧ C v m := by
  obtain ⟨v, m, p, r⟩ := h
  exact ⟨v, m, r, k v m p⟩
theorem cL {d y : Nat} {as : List mVal} {M : mMem} {P : Int → mMem → Prop} {C : Int → mMem → Prop} (h : mL3 d y as M P) (k : ∀ v m, P v m → C v m) : ∃ v m, mR3 d y as (S0, M) (some (vl v), (S0, m)) ∧ C v m := by
  obtain ⟨v, m, p, r⟩ := h
  exact ⟨v, m, r, k v m p⟩
theorem cN {d y : Nat} {as : List mVal} {M : mMem} {P : mMem → Prop} {C : mMem → Prop} (h : mN3 d y as M P) (k : ∀ m, P m → C m) : ∃ m, mR3 d y as (S0, M) (none, (S0, m)) ∧ C m := by
  obtain ⟨m, p, r⟩ := h
  exact ⟨m, r, k m p⟩
end
section
/-! PURE PROOFS 31: what is tried, on both sides -/
def FrL (m M : mMem) : Prop := (∀ k : Nat, (1 ≤ k ∧ k ≤ 8) ∨ (17 ≤ k ∧ k ≤ 36) ∨ k = 38 ∨ k = 40 ∨ k = 41 ∨ 45 ≤ k → m k = M k) ∧ m 0 13 = M 0 13 ∧ m 0 16 = M 0 16
def FrM (m M : mMem) : Prop := (∀ k : Nat, k ≠ 53 → k ≠ 54 → k ≠ 59 → k ≠ 61 → k ≠ 62 → m k = M k) ∧ m 53 5 = M 53 5 ∧ m 53 6 = M 53 6 ∧ m 53 22 = M 53 22 ∧ m 53 30 = M 53 30 ∧ ∀ i : Int, 0 ≤ i → i < 255 → m 54 i = M 54 i
theorem FrL_refl (M : mMem) : FrL M M := ⟨fun _ _ => rfl, rfl, rfl⟩
theorem FrM_refl (M : mMem) : FrM M M := ⟨fun _ _ _ _ _ _ => rfl, rfl, rfl, rfl, rfl, fun _ _ _ => rfl⟩
theorem FrL_trans {A B C : mMem} (h : FrL A B) (g : FrL B C) : FrL A C := ⟨fun k q => (h.1 k q).trans (g.1 k q), h.2.1.trans g.2.1, h.2.2.trans g.2.2⟩
theorem FrM_trans {A B C : mMem} (h : FrM A B) (g : FrM B C) : FrM A C := ⟨fun k a b c d e => (h.1 k a b c d e).trans (g.1 k a b c d e), h.2.1.trans g.2.1, h.2.2.1.trans g.2.2.1, h.2.2.2.1.trans g.2.2.2.1, h.2.2.2.2.1.trans g.2.2.2.2.1, fun i a b => (h.2.2.2.2.2 i a b).trans (g.2.2.2.2.2 i a b)⟩
theorem FrL_fr {m M : mMem} (h : FrL m M) : Fr m M := by
  obtain ⟨r, a, b⟩ := h
  refine ⟨fun k q => r k (by unfold kept at q; omega), a, b, ?_, ?_, ?_, ?_, ?_, ?_, fun i _ _ => ?_⟩
  · rw [r 35 (by omega)]
  · rw [r 35 (by omega)]
  · rw [r 53 (by omega)]
  · rw [r 53 (by omega)]
  · rw [r 53 (by omega)]
  · rw [r 53 (by omega)]
  · rw [r 54 (by omega)]
theorem FrM_fr {m M : mMem} (h : FrM m M) : Fr m M := by
  obtain ⟨r, a, b, c, d, e⟩ := h
  refine ⟨fun k q => r k (by unfold kept at q; omega) (by unfold kept at q; omega) (by unfold kept at q; omega) (by unfold kept at q; omega) (by unfold kept at q; omega), ?_, ?_, ?_, ?_, a, b, c, d, e⟩
  · rw [r 0 (by decide) (by decide) (by decide) (by decide) (by decide)]
  · rw [r 0 (by decide) (by decide) (by decide) (by decide) (by decide)]
  · rw [r 35 (by decide) (by decide) (by decide) (by decide) (by decide)]
  · rw [r 35 (by decide) (by decide) (by decide) (by decide) (by decide)]
/-- trial rows and scratch rows alone have changed -/
theorem FrL_row {m' m M : mMem} (h : FrL m M) (e : ∀ k : Nat, (k < 9 ∨ 17 ≤ k) → k ≠ 37 → k ≠ 39 → k ≠ 42 → k ≠ 43 → k ≠ 44 → m' k = m k) : FrL m' M :=
  FrL_trans ⟨fun k q => e k (by omega) (by omega) (by omega) (by omega) (by omega) (by omega), by rw [e 0 (by decide) (by decide) (by decide) (by decide) (by decide) (by decide)], by rw [e 0 (by decide) (by decide) (by decide) (by decide) (by decide) (by decide)]⟩ h
theorem ask_pair {y1 y2 : Nat} {as : List mVal} {M : mMem} {V : Int} (h : Inv M) (a : mI3 10 y1 (vr 0 :: as) M (fun v m => v = V ∧ FrL m M)) (b : ∀ m, FrL m M → mI3 10 y2 (vr 53 :: as) m (fun v m' => v = V ∧ FrM m' m)) : PairI y1 y2 as M := by
  obtain ⟨v, m, ⟨e, f⟩, r⟩ := a
  obtain ⟨v', m', ⟨e', f'⟩, r'⟩ := b m f
  rw [e] at r
  rw [e'] at r'
  exact ⟨V, m, m', r, r', Inv_fr h (Fr_trans (FrM_fr f') (FrL_fr f))⟩
theorem woS_cong {L L' f f' : Int → Int} {n : Nat} (hL : ∀ i : Int, 0 ≤ i → i < 4 * (n : Int) → L i = L' i) (hf : ∀ i : Int, 0 ≤ i → i < 36 → f i = f' i) : woS L f n = woS L' f' n :=
  sm_cong (fun k hk => by rw [hL (4 * (k : Int) + 3) (by omega) (by omega), rdL_cong (hL _ (by omega) (by omega)) (hL _ (by omega) (by omega)) (hL _ (by omega) (by omega)) hf])
theorem hb_cong {L L' f f' : Int → Int} {n : Nat} (hL : ∀ i : Int, 0 ≤ i → i < 4 * (n : Int) → L i = L' i) (hf : ∀ i : Int, 0 ≤ i → i < 36 → f i = f' i) : hbF (fun l => rdL L f l) n = hbF (fun l => rdL L' f' l) n :=
  hbF_cong (fun k hk => rdL_cong (hL _ (by omega) (by omega)) (hL _ (by omega) (by omega)) (hL _ (by omega) (by omega)) hf)
/-- the trial has the cells f, the threads s, and the laws and the plan of the charter -/
def TrC (m M : mMem) (f s : Int → Int) : Prop := Cht m 9 ∧ (∀ i : Int, 0 ≤ i → i < 36 → m 10 i = f i) ∧ (∀ c : Int, 1 ≤ c → c ≤ 3 → m 11 c = s c) ∧ (∀ i : Int, 0 ≤ i → i < 20 → m 12 i = M 4 i) ∧ m 9 5 = M 1 5 ∧ (∀ i : Int, 0 ≤ i → i < 8 → m 13 i = M 5 i) ∧ (∀ i : Int, 0 ≤ i → i < 8 → m 14 i = M 6 i) ∧ m 9 6 = M 1 6
theorem T_copy {m M : mMem} (h : Cht M 1) (e : ∀ k : Nat, 1 ≤ k → k ≤ 8 → m k = M k) : TrC (cpyM m 9 1) M (M 2) (M 3) := by
  have cp : cpP 9 1 := by
    unfold cpP
    omega
  have hc : Cht m 1 := Cht_eq h (fun k q0 q1 => e k q0 (by omega))
  obtain ⟨s1, s2, s3, s4, s5, s6, s7⟩ := cpy_same m cp
  refine ⟨cpy_cht cp hc, fun i q0 q1 => ?_, fun c q0 q1 => ?_, fun i q0 q1 => ?_, ?_, fun i q0 q1 => ?_, fun i q0 q1 => ?_, ?_⟩
  · rw [← e 2 (by decide) (by decide)]
    exact s1 i q0 q1
  · rw [← e 3 (by decide) (by decide)]
    exact s2 c (by omega) (by omega)
  · rw [← e 4 (by decide) (by decide)]
    exact s3 i q0 q1
  · rw [← e 1 (by decide) (by decide)]
    exact s6
  · rw [← e 5 (by decide) (by decide)]
    exact s4 i q0 q1
  · rw [← e 6 (by decide) (by decide)]
    exact s5 i q0 q1
  · rw [← e 1 (by decide) (by decide)]
    exact s7
theorem T_eq {m m' M : mMem} {f s : Int → Int} (h : TrC m M f s) (e : ∀ k : Nat, 10 ≤ k → k ≤ 16 → m' k = m k) (e5 : m' 9 5 = m 9 5) (e6 : m' 9 6 = m 9 6) : TrC m' M f s := by
  obtain ⟨c, h1, h2, h3, h4, h5, h6, h7⟩ := h
  have sm : Same m' 9 m 9 := ⟨fun i _ _ => by rw [e (9 + 1) (by decide) (by decide)], fun i _ _ => by rw [e (9 + 2) (by decide) (by decide)], fun i _ _ => by rw [e (9 + 3) (by decide) (by decide)], fun i _ _ => by rw [e (9 + 4) (by decide) (by decide)], fun i _ _ => by rw [e (9 + 5) (by decide) (by decide)], e5, e6⟩
  have cc : Cht m' 9 := Cht_of c sm (fun i _ _ => by rw [e (9 + 6) (by decide) (by decide)]) (fun i _ _ => by rw [e (9 + 7) (by decide) (by decide)])
  unfold TrC
  rw [e 10 (by decide) (by decide), e 11 (by decide) (by decide), e 12 (by decide) (by decide), e 13 (by decide) (by decide), e 14 (by decide) (by decide), e5, e6]
  exact ⟨cc, h1, h2, h3, h4, h5, h6, h7⟩
theorem T_put {m M : mMem} {f s : Int → Int} {t v : Int} (h : TrC m M f s) (ht : 0 ≤ t ∧ t < 36) (hv : 0 ≤ v ∧ v ≤ 4) : TrC (putM m 9 t v) M (fup f t v) s := by
  obtain ⟨c, h1, h2, h3, h4, h5, h6, h7⟩ := h
  have cc := put_cht c ht hv
  have e1 : putM m 9 t v 10 = fup (m 10) t v := put_cel m 9 t v
  have e : ∀ k : Nat, k ≠ 10 → k ≠ 15 → k ≠ 16 → putM m 9 t v k = m k := fun k a b c => put_ne _ _ _ _ a b c
  unfold TrC
  rw [e1, e 11 (by decide) (by decide) (by decide), e 12 (by decide) (by decide) (by decide), e 13 (by decide) (by decide) (by decide), e 14 (by decide) (by decide) (by decide), e 9 (by decide) (by decide) (by decide)]
  refine ⟨cc, fun i q0 q1 => ?_, h2, h3, h4, h5, h6, h7⟩
  unfold fup
  rw [h1 i q0 q1]
theorem T_take {m M : mMem} {f s : Int → Int} {t v : Int} (h : TrC m M f s) (ht : 0 ≤ t ∧ t < 36) (hv : 1 ≤ v ∧ v ≤ 3) (hs : 0 < s v) : TrC (takeM m 9 t v) M (fup f t v) (fup s v (s v - 1)) := by
  obtain ⟨c, h1, h2, h3, h4, h5, h6, h7⟩ := h
  have g2 : m 11 v = s v := h2 v hv.1 hv.2
  have cc := takeM_cht c ht hv (show 0 < m 11 v by omega)
  have s9 : 0 ≤ m 11 v ∧ m 11 v ≤ 99 := c.2.2.2.2.2 v hv.1 hv.2
  have e1 : takeM m 9 t v 10 = fup (m 10) t v := takeM_1 m 9 t v
  have e2 : takeM m 9 t v 11 = fup (m 11) v (w32 (m 11 v - 1)) := takeM_2 m 9 t v
  rw [w32_s (by omega) (by omega)] at e2
  have e : ∀ k : Nat, k ≠ 10 → k ≠ 11 → k ≠ 15 → k ≠ 16 → takeM m 9 t v k = m k := fun k a b c d => takeM_ne _ _ _ _ a b c d
  unfold TrC
  rw [e1, e2, e 12 (by decide) (by decide) (by decide) (by decide), e 13 (by decide) (by decide) (by decide) (by decide), e 14 (by decide) (by decide) (by decide) (by decide), e 9 (by decide) (by decide) (by decide) (by decide)]
  refine ⟨cc, fun i q0 q1 => ?_, fun i q0 q1 => ?_, h3, h4, h5, h6, h7⟩
  · unfold fup
    rw [h1 i q0 q1]
  · unfold fup
    rw [h2 i q0 q1, g2]
theorem T_worth (d : Nat) {m M : mMem} {f s : Int → Int} (h : TrC m M f s) {n : Nat} (hn : M 1 5 = n) (h5 : n ≤ 5) : mR3 (d + 3) 13 [vr 9] (S0, m) (some (vi (woS (M 4) f n)), (S0, m)) := by
  have hL := h.1.2.2.1
  have e5 : m 9 5 = n := by rw [h.2.2.2.2.1, hn]
  rw [e5] at hL
  have g := R_worth d m 9 (by omega) n e5 h5 h.1.1 hL
  rw [woS_cong (L' := M 4) (f' := f) (fun i q0 q1 => h.2.2.2.1 i q0 (by omega)) h.2.1] at g
  exact g
theorem T_held (d : Nat) {m M : mMem} {f s : Int → Int} (h : TrC m M f s) {n : Nat} (hn : M 1 5 = n) (h5 : n ≤ 5) : mR3 (d + 3) 14 [vr 9] (S0, m) (some (vi (hbF (fun l => rdL (M 4) f l) n)), (S0, m)) := by
  have hL := h.1.2.2.1
  have e5 : m 9 5 = n := by rw [h.2.2.2.2.1, hn]
  rw [e5] at hL
  have g := R_heldBits d m 9 (by omega) n e5 h5 h.1.1 hL
  rw [hb_cong (L' := M 4) (f' := f) (fun i q0 q1 => h.2.2.2.1 i q0 (by omega)) h.2.1] at g
  exact g
theorem T_reads (d : Nat) {m M : mMem} {f s : Int → Int} (h : TrC m M f s) {l : Int} (hl : 0 ≤ l ∧ l < M 1 5) : mR3 (d + 2) 10 [vr 9, vi l] (S0, m) (some (vi (rdL (M 4) f l)), (S0, m)) := by
  have e5 : m 9 5 = M 1 5 := h.2.2.2.2.1
  have b5 : 0 ≤ m 9 5 ∧ m 9 5 ≤ 5 := h.1.2.1
  have g := R_reads d m 9 (by omega) l (m 9 5) h.1.1 h.1.2.2.1 (by omega) b5.2
  have c : rdL (m (9 + 3)) (m (9 + 1)) l = rdL (M 4) f l := rdL_cong (h.2.2.2.1 _ (by omega) (by omega)) (h.2.2.2.1 _ (by omega) (by omega)) (h.2.2.2.1 _ (by omega) (by omega)) h.2.1
  rw [c] at g
  exact g
theorem T_can (d : Nat) {m M : mMem} {f s : Int → Int} (h : TrC m M f s) {t c : Int} (ht : 0 ≤ t ∧ t < 36) (hc : 1 ≤ c ∧ c ≤ 3) : mR3 (d + 1) 5 [vr 9, vi t, vi c] (S0, m) (some (vi (b2 (f t = 0 ∧ 0 < s c))), (S0, m)) := by
  have g := R_canTake d m 9 (by omega) t c ht hc
  have e1 : m (9 + 1) t = f t := h.2.1 t ht.1 ht.2
  have e2 : m (9 + 2) c = s c := h.2.2.1 c hc.1 hc.2
  rw [e1, e2] at g
  exact g
theorem T_cells (d : Nat) {m M : mMem} {f s : Int → Int} (h : TrC m M f s) (x : Int) : mR3 (d + 1) 15 [vr 9, vi x] (S0, m) (some (vi (cO f x 36)), (S0, m)) := by
  have g := R_cellsOf d m 9 (by omega) x
  have e : cO (m (9 + 1)) x 36 = cO f x 36 := cO_cong h.2.1
  rw [e] at g
  exact g
end
section
/-! PURE PROOFS 32: what is tried, on the other's page -/
def PgC (m M : mMem) (p : Int) (f s : Int → Int) : Prop := (∀ i : Int, 0 ≤ i → i < 36 → m 54 (p + i) = f i) ∧ (∀ c : Int, 1 ≤ c → c ≤ 3 → m 54 (p + 35 + c) + 20 = s c ∧ 0 ≤ s c ∧ s c ≤ 99) ∧ m 54 (p + 39) = M 1 5 ∧ (∀ l x : Int, 0 ≤ l → l < M 1 5 → 0 ≤ x → x < 4 → m 54 (p + 40 + 5 * x + l) = M 4 (4 * l + x))
theorem G_copy {m M : mMem} {p : Int} (h : Pg M 1 0) (hc : Cht M 1) (e : ∀ i : Int, 0 ≤ i → i < 85 → m 54 i = M 54 i) : PgC (mcpy m 54 0 54 p 85) M p (M 2) (M 3) := by
  obtain ⟨g1, g2, g3, g4, g5, g6⟩ := Pg0_of h
  have b5 : 0 ≤ M 1 5 ∧ M 1 5 ≤ 5 := hc.2.1
  have c : ∀ i : Int, 0 ≤ i → i < 85 → mcpy m 54 0 54 p 85 54 (p + i) = M 54 i := fun i q0 q1 => by
    unfold mcpy
    rw [if_pos ⟨rfl, by omega, by omega⟩, show 0 + (p + i - p) = i by omega, e i q0 q1]
  refine ⟨fun i q0 q1 => ?_, fun x q0 q1 => ⟨?_, hc.2.2.2.2.2 x q0 q1⟩, ?_, fun l x q0 q1 q2 q3 => ?_⟩
  · rw [c i q0 (by omega)]
    exact g1 i q0 q1
  · rw [show p + 35 + x = p + (35 + x) by omega, c _ (by omega) (by omega)]
    exact g2 x q0 q1
  · rw [c 39 (by omega) (by omega)]
    exact g3
  · rw [show p + 40 + 5 * x + l = p + (40 + 5 * x + l) by omega, c _ (by omega) (by omega)]
    exact g4 l x q0 q1 q2 q3
theorem G_eq {m m' M : mMem} {p : Int} {f s : Int → Int} (h : PgC m M p f s) (hc : Cht M 1) (e : ∀ i : Int, p ≤ i → i < p + 60 → m' 54 i = m 54 i) : PgC m' M p f s := by
  obtain ⟨h1, h2, h3, h4⟩ := h
  have b5 : 0 ≤ M 1 5 ∧ M 1 5 ≤ 5 := hc.2.1
  refine ⟨fun i q0 q1 => ?_, fun x q0 q1 => ?_, ?_, fun l x q0 q1 q2 q3 => ?_⟩
  · rw [e _ (by omega) (by omega)]
    exact h1 i q0 q1
  · rw [e _ (by omega) (by omega)]
    exact h2 x q0 q1
  · rw [e _ (by omega) (by omega)]
    exact h3
  · rw [e _ (by omega) (by omega)]
    exact h4 l x q0 q1 q2 q3
theorem G_L {m M : mMem} {p : Int} {f s : Int → Int} (h : PgC m M p f s) {i : Int} (q0 : 0 ≤ i) (q1 : i < 4 * M 1 5) : pgL m p i = M 4 i := by
  have g := h.2.2.2 (i / 4) (i % 4) (by omega) (by omega) (by omega) (by omega)
  rw [show 4 * (i / 4) + i % 4 = i by omega] at g
  exact g
theorem G_law {m M : mMem} {p : Int} {f s : Int → Int} (h : PgC m M p f s) (hc : Cht M 1) : lawOK (pgL m p) (M 1 5) := by
  intro l h0 h1
  have g := hc.2.2.1 l h0 h1
  rw [G_L h (i := 4 * l) (by omega) (by omega), G_L h (i := 4 * l + 1) (by omega) (by omega), G_L h (i := 4 * l + 2) (by omega) (by omega), G_L h (i := 4 * l + 3) (by omega) (by omega)]
  exact g
theorem G_worth (d : Nat) {m M : mMem} {p : Int} {f s : Int → Int} (h : PgC m M p f s) (hp : 0 ≤ p ∧ p ≤ 425) (hc : Cht M 1) {n : Nat} (hn : M 1 5 = n) (h5 : n ≤ 5) : mR3 (d + 3) 134 [vr 53, vi p] (S0, m) (some (vi (woS (M 4) f n)), (S0, m)) := by
  have hL := G_law h hc
  rw [hn] at hL
  have g := R_worthOn d m p n hp (by rw [h.2.2.1, hn]) h5 hL
  rw [woS_cong (L := pgL m p) (L' := M 4) (f := pg m p) (f' := f) (fun i q0 q1 => G_L h q0 (by omega)) h.1] at g
  exact g
theorem G_held (d : Nat) {m M : mMem} {p : Int} {f s : Int → Int} (h : PgC m M p f s) (hp : 0 ≤ p ∧ p ≤ 425) (hc : Cht M 1) {n : Nat} (hn : M 1 5 = n) (h5 : n ≤ 5) : mR3 (d + 3) 135 [vr 53, vi p] (S0, m) (some (vi (hbF (fun l => rdL (M 4) f l) n)), (S0, m)) := by
  have hL := G_law h hc
  rw [hn] at hL
  have g := R_heldOn d m p n hp (by rw [h.2.2.1, hn]) h5 hL
  rw [hb_cong (L := pgL m p) (L' := M 4) (f := pg m p) (f' := f) (fun i q0 q1 => G_L h q0 (by omega)) h.1] at g
  exact g
theorem G_reads (d : Nat) {m M : mMem} {p : Int} {f s : Int → Int} (h : PgC m M p f s) (hp : 0 ≤ p ∧ p ≤ 425) (hc : Cht M 1) {l : Int} (hl : 0 ≤ l ∧ l < M 1 5) : mR3 (d + 2) 133 [vr 53, vi p, vi l, vi 0] (S0, m) (some (vi (rdL (M 4) f l)), (S0, m)) := by
  have b5 : 0 ≤ M 1 5 ∧ M 1 5 ≤ 5 := hc.2.1
  have g := R_readsOn d m p l 0 (M 1 5) hp (G_law h hc) hl b5.2 (Or.inl rfl)
  rw [if_pos rfl] at g
  have c : rdL (pgL m p) (pg m p) l = rdL (M 4) f l := rdL_cong (G_L h (by omega) (by omega)) (G_L h (by omega) (by omega)) (G_L h (by omega) (by omega)) h.1
  rw [c] at g
  exact g
theorem G_set {m M : mMem} {p : Int} {f s : Int → Int} {t v : Int} (h : PgC m M p f s) (hc : Cht M 1) (ht : 0 ≤ t ∧ t < 36) : PgC (mupd m 54 (p + t) v) M p (fup f t v) s := by
  obtain ⟨h1, h2, h3, h4⟩ := h
  have b5 : 0 ≤ M 1 5 ∧ M 1 5 ≤ 5 := hc.2.1
  unfold PgC
  rw [mupd_at]
  refine ⟨fun i q0 q1 => ?_, fun x q0 q1 => ?_, ?_, fun l x q0 q1 q2 q3 => ?_⟩
  · have g := h1 i q0 q1
    unfold fup
    split <;> split <;> omega
  · rw [fup_ne _ _ (by omega)]
    exact h2 x q0 q1
  · rw [fup_ne _ _ (by omega)]
    exact h3
  · rw [fup_ne _ _ (by omega)]
    exact h4 l x q0 q1 q2 q3
theorem G_st {m M : mMem} {p : Int} {f s : Int → Int} {t v : Int} (h : PgC m M p f s) (hc : Cht M 1) (ht : 0 ≤ t ∧ t < 36) (hv : 1 ≤ v ∧ v ≤ 3) (hs : 0 < s v) : PgC (stM m p t v) M p (fup f t v) (fup s v (s v - 1)) := by
  obtain ⟨h1, h2, h3, h4⟩ := h
  have b5 : 0 ≤ M 1 5 ∧ M 1 5 ≤ 5 := hc.2.1
  have e : stM m p t v 54 = fup (fup (m 54) (p + t) v) (p + 35 + v) (m 54 (p + 35 + v) - 1) := by
    unfold stM
    rw [mupd_at, mupd_at]
  have gv := h2 v hv.1 hv.2
  unfold PgC
  rw [e]
  refine ⟨fun i q0 q1 => ?_, fun x q0 q1 => ?_, ?_, fun l x q0 q1 q2 q3 => ?_⟩
  · have g := h1 i q0 q1
    rw [fup_ne _ _ (by omega)]
    unfold fup
    split <;> split <;> omega
  · have g := h2 x q0 q1
    by_cases q : x = v
    · rw [q, fup_at, fup_at]
      omega
    · rw [fup_ne _ _ (by omega), fup_ne _ _ (by omega), fup_ne _ _ q]
      exact g
  · rw [fup_ne _ _ (by omega), fup_ne _ _ (by omega)]
    exact h3
  · rw [fup_ne _ _ (by omega), fup_ne _ _ (by omega)]
    exact h4 l x q0 q1 q2 q3
theorem G_stitch (d : Nat) {m M : mMem} {p : Int} {f s : Int → Int} {t c : Int} (h : PgC m M p f s) (hp : 0 ≤ p ∧ p ≤ 425) (ht : 0 ≤ t ∧ t < 36) (hc : 1 ≤ c ∧ c ≤ 3) : mR3 (d + 1) 148 [vr 53, vi p, vi t, vi c] (S0, m) (some (vi (b2 (f t = 0 ∧ 0 < s c))), (S0, if f t = 0 ∧ 0 < s c then stM m p t c else m)) := by
  have g2 := h.2.1 c hc.1 hc.2
  have g1 := h.1 t ht.1 ht.2
  have g := R_stitchesOn d m p t c hp ht hc (by omega)
  rw [g1, g2.1] at g
  exact g
theorem stM_ne (m : mMem) (p t c : Int) {k : Nat} (h : k ≠ 54) : stM m p t c k = m k := by
  unfold stM
  rw [mupd_ne _ _ _ h, mupd_ne _ _ _ h]
theorem stM_lo (m : mMem) {p t c i : Int} (h : i < p) (ht : 0 ≤ t) (hc : 0 ≤ c) : stM m p t c 54 i = m 54 i := by
  unfold stM
  rw [mupd_at, fup_ne _ _ (by omega), mupd_at, fup_ne _ _ (by omega)]
theorem FrM_54 {m' m M : mMem} (h : FrM m M) (e : ∀ k : Nat, k ≠ 54 → m' k = m k) (f : ∀ i : Int, 0 ≤ i → i < 255 → m' 54 i = m 54 i) : FrM m' M :=
  FrM_trans ⟨fun k _ a _ _ _ => e k a, by rw [e 53 (by decide)], by rw [e 53 (by decide)], by rw [e 53 (by decide)], by rw [e 53 (by decide)], f⟩ h
theorem FrM_st {m M : mMem} (h : FrM m M) {p t c : Int} (hp : 255 ≤ p) (ht : 0 ≤ t) (hc : 0 ≤ c) : FrM (stM m p t c) M := FrM_54 h (fun k q => stM_ne _ _ _ _ q) (fun i q0 q1 => stM_lo m (by omega) ht hc)
theorem FrM_set {m M : mMem} (h : FrM m M) {i v : Int} (hi : 255 ≤ i) : FrM (mupd m 54 i v) M := FrM_54 h (fun k q => mupd_ne _ _ _ q) (fun j q0 q1 => by rw [mupd_at, fup_ne _ _ (by omega)])
theorem FrM_cpy {m M : mMem} (h : FrM m M) {s p : Int} (hp : 255 ≤ p) : FrM (mcpy m 54 s 54 p 85) M := FrM_54 h (fun k q => mcpy_ne _ _ _ _ _ q) (fun j q0 q1 => by
  unfold mcpy
  rw [if_neg (by omega)])
theorem FrM_53 {m M : mMem} (h : FrM m M) {i v : Int} (h5 : i ≠ 5) (h6 : i ≠ 6) (h22 : i ≠ 22) (h30 : i ≠ 30) : FrM (mupd m 53 i v) M := by
  refine FrM_trans ⟨fun k a _ _ _ _ => mupd_ne _ _ _ a, ?_, ?_, ?_, ?_, fun j _ _ => by rw [mupd_ne _ _ _ (by decide)]⟩ h
  · rw [mupd_at, fup_ne _ _ (fun q => h5 q.symm)]
  · rw [mupd_at, fup_ne _ _ (fun q => h6 q.symm)]
  · rw [mupd_at, fup_ne _ _ (fun q => h22 q.symm)]
  · rw [mupd_at, fup_ne _ _ (fun q => h30 q.symm)]
end
section
/-! PURE PROOFS 33: the plan gone through: runs, ahead -/
def plS (P Q f s : Int → Int) (but : Int) : Nat → (Int → Int) × (Int → Int) × Int × Int
  | 0 => (f, s, 0, -4)
  | i + 1 => if (i : Int) = but then plS P Q f s but i else if (plS P Q f s but i).1 (P i) = 0 ∧ 0 < (plS P Q f s but i).2.1 (Q i) then (fup (plS P Q f s but i).1 (P i) (Q i), fup (plS P Q f s but i).2.1 (Q i) ((plS P Q f s but i).2.1 (Q i) - 1), (plS P Q f s but i).2.2.1 + 1, (plS P Q f s but i).2.2.2) else if (plS P Q f s but i).2.2.2 = -4 then ((plS P Q f s but i).1, (plS P Q f s but i).2.1, (plS P Q f s but i).2.2.1, (i : Int)) else plS P Q f s but i
theorem plS_s (P Q f s : Int → Int) (but : Int) (i : Nat) : plS P Q f s but (i + 1) = if (i : Int) = but then plS P Q f s but i else if (plS P Q f s but i).1 (P i) = 0 ∧ 0 < (plS P Q f s but i).2.1 (Q i) then (fup (plS P Q f s but i).1 (P i) (Q i), fup (plS P Q f s but i).2.1 (Q i) ((plS P Q f s but i).2.1 (Q i) - 1), (plS P Q f s but i).2.2.1 + 1, (plS P Q f s but i).2.2.2) else if (plS P Q f s but i).2.2.2 = -4 then ((plS P Q f s but i).1, (plS P Q f s but i).2.1, (plS P Q f s but i).2.2.1, (i : Int)) else plS P Q f s but i := rfl
/-- the plan of M, gone through but for one stitch -/
def plM (M : mMem) (but : Int) (i : Nat) : (Int → Int) × (Int → Int) × Int × Int := plS (M 5) (M 6) (M 2) (M 3) but i
theorem plM_s (M : mMem) (but : Int) (i : Nat) : plM M but (i + 1) = if (i : Int) = but then plM M but i else if (plM M but i).1 (M 5 i) = 0 ∧ 0 < (plM M but i).2.1 (M 6 i) then (fup (plM M but i).1 (M 5 i) (M 6 i), fup (plM M but i).2.1 (M 6 i) ((plM M but i).2.1 (M 6 i) - 1), (plM M but i).2.2.1 + 1, (plM M but i).2.2.2) else if (plM M but i).2.2.2 = -4 then ((plM M but i).1, (plM M but i).2.1, (plM M but i).2.2.1, (i : Int)) else plM M but i := rfl
theorem L_follow (d : Nat) {M m : mMem} (hc : Cht M 1) (e : ∀ k : Nat, 1 ≤ k → k ≤ 8 → m k = M k) (but : Int) {n : Nat} (hn : M 1 6 = n) : mN3 (d + 5) 96 [vr 0, vi but] m (fun m' => TrC m' M (plM M but n).1 (plM M but n).2.1 ∧ m' 9 7 = (plM M but n).2.2.1 ∧ m' 9 8 = (plM M but n).2.2.2 ∧ ∀ k : Nat, (k < 9 ∨ 17 ≤ k) → m' k = m k) := by
  have n8 : 0 ≤ M 1 6 ∧ M 1 6 ≤ 8 := hc.2.2.2.1
  refine mN3_i ⟨by decide, Nat.le_of_ble_eq_true rfl⟩ (fun K hK => ?_)
  have loop : ∀ (j i : Nat), i + j = n → ∀ m' : mMem, TrC m' M (plM M but i).1 (plM M but i).2.1 → m' 9 7 = (plM M but i).2.2.1 → m' 9 8 = (plM M but i).2.2.2 → (0 ≤ m' 9 7 ∧ m' 9 7 ≤ i) → (∀ k : Nat, (k < 9 ∨ 17 ≤ k) → m' k = m k) → K 30 [(0, vr 0), (1, vi but), (2, vi (i : Int))] [] (S0, m') := by
    intro j
    induction j with
    | zero =>
      intro i hi m' h1 h2 h3 h4 h5
      have e6 : m' 9 6 = M 1 6 := h1.2.2.2.2.2.2.2
      rw [show i = n by omega] at h1 h2 h3
      exact q_L_followPlan_30 hK _ _ m' (br_t (by omega) (rN_i ⟨h1, h2, h3, h5⟩))
    | succ j ih =>
      intro i hi m' h1 h2 h3 h4 h5
      have e6 : m' 9 6 = M 1 6 := h1.2.2.2.2.2.2.2
      have ew : w32 ((i : Int) + 1) = ((i + 1 : Nat) : Int) := by rw [w32_s (by omega) (by omega)]; omega
      have g5 : m' 13 i = M 5 i := h1.2.2.2.2.2.1 i (by omega) (by omega)
      have g6 : m' 14 i = M 6 i := h1.2.2.2.2.2.2.1 i (by omega) (by omega)
      have pr : (0 ≤ M 5 i ∧ M 5 i < 36) ∧ 1 ≤ M 6 i ∧ M 6 i ≤ 3 := hc.2.2.2.2.1 i (by omega) (by omega)
      have r1 : m' 10 (M 5 i) = (plM M but i).1 (M 5 i) := h1.2.1 _ pr.1.1 pr.1.2
      have r2 : m' 11 (M 6 i) = (plM M but i).2.1 (M 6 i) := h1.2.2.1 _ pr.2.1 pr.2.2
      refine q_L_followPlan_30 hK _ _ m' (br_f (by omega) ⟨fun q => ?_, fun q => ⟨_, R_takePlanned d m' 9 (by omega) i h1.1 (by omega), ?_⟩⟩)
      · rw [ew]
        refine ih (i + 1) (by omega) m' ?_ ?_ ?_ (by omega) h5
        · rw [plM_s, if_pos q]
          exact h1
        · rw [plM_s, if_pos q]
          exact h2
        · rw [plM_s, if_pos q]
          exact h3
      · rw [ew]
        unfold tpM
        show K 30 [(0, vr 0), (1, vi but), (2, vi ((i + 1 : Nat) : Int))] [] (S0, if m' 10 (m' 13 i) = 0 ∧ 0 < m' 11 (m' 14 i) then mupd (takeM m' 9 (m' 13 i) (m' 14 i)) 9 7 (w32 (m' 9 7 + 1)) else if m' 9 8 = -4 then mupd m' 9 8 i else m')
        rw [g5, g6, r1, r2]
        by_cases c : (plM M but i).1 (M 5 i) = 0 ∧ 0 < (plM M but i).2.1 (M 6 i)
        · rw [if_pos c]
          have tk := T_take h1 pr.1 pr.2 c.2
          have t9 : takeM m' 9 (M 5 i) (M 6 i) 9 = m' 9 := takeM_ne _ _ _ _ (by decide) (by decide) (by decide) (by decide)
          have wv : w32 (m' 9 7 + 1) = m' 9 7 + 1 := w32_s (by omega) (by omega)
          rw [wv]
          have q7 : mupd (takeM m' 9 (M 5 i) (M 6 i)) 9 7 (m' 9 7 + 1) 9 7 = m' 9 7 + 1 := by rw [mupd_at, fup_at]
          have qx : ∀ x : Int, x ≠ 7 → mupd (takeM m' 9 (M 5 i) (M 6 i)) 9 7 (m' 9 7 + 1) 9 x = m' 9 x := fun x hx => by rw [mupd_at, fup_ne _ _ hx, t9]
          have qk : ∀ k : Nat, k ≠ 9 → mupd (takeM m' 9 (M 5 i) (M 6 i)) 9 7 (m' 9 7 + 1) k = takeM m' 9 (M 5 i) (M 6 i) k := fun k hk => mupd_ne _ _ _ hk
          refine ih (i + 1) (by omega) _ ?_ ?_ ?_ (by rw [q7]; omega) ?_
          · rw [plM_s, if_neg q, if_pos c]
            exact T_eq tk (fun k a b => qk k (by omega)) (by rw [qx 5 (by decide), t9]) (by rw [qx 6 (by decide), t9])
          · rw [plM_s, if_neg q, if_pos c, q7, h2]
          · rw [plM_s, if_neg q, if_pos c, qx 8 (by decide), h3]
          · intro k hk
            rw [qk k (by omega), takeM_ne _ _ _ _ (by omega) (by omega) (by omega) (by omega), h5 k hk]
        · rw [if_neg c]
          by_cases c2 : m' 9 8 = -4
          · rw [if_pos c2]
            have qx : ∀ x : Int, x ≠ 8 → mupd m' 9 8 (i : Int) 9 x = m' 9 x := fun x hx => by rw [mupd_at, fup_ne _ _ hx]
            refine ih (i + 1) (by omega) _ ?_ ?_ ?_ (by rw [qx 7 (by decide)]; omega) (fun k hk => by rw [mupd_ne _ _ _ (by omega), h5 k hk])
            · rw [plM_s, if_neg q, if_neg c, if_pos (by rw [← h3]; exact c2)]
              exact T_eq h1 (fun k a b => mupd_ne _ _ _ (by omega)) (qx 5 (by decide)) (qx 6 (by decide))
            · rw [plM_s, if_neg q, if_neg c, if_pos (by rw [← h3]; exact c2), qx 7 (by decide), h2]
            · rw [plM_s, if_neg q, if_neg c, if_pos (by rw [← h3]; exact c2), mupd_at, fup_at]
          · rw [if_neg c2]
            refine ih (i + 1) (by omega) _ ?_ ?_ ?_ (by omega) h5
            · rw [plM_s, if_neg q, if_neg c, if_neg (by rw [← h3]; exact c2)]
              exact h1
            · rw [plM_s, if_neg q, if_neg c, if_neg (by rw [← h3]; exact c2)]
              exact h2
            · rw [plM_s, if_neg q, if_neg c, if_neg (by rw [← h3]; exact c2)]
              exact h3
  refine q_L_followPlan_0 hK but m ⟨_, R_copyFrom (d + 3) m 9 1 (by unfold cpP; omega), ?_⟩
  have tc := T_copy hc e
  have q8 : mupd (mupd (cpyM m 9 1) 9 7 0) 9 8 (-4) 9 8 = -4 := by rw [mupd_at, fup_at]
  have q7 : mupd (mupd (cpyM m 9 1) 9 7 0) 9 8 (-4) 9 7 = 0 := by rw [mupd_at, fup_ne _ _ (by decide), mupd_at, fup_at]
  refine loop n 0 (by omega) _ (T_eq tc (fun k a b => ?_) ?_ ?_) q7 q8 (by rw [q7]; omega) (fun k hk => ?_)
  · rw [mupd_ne _ _ _ (by omega), mupd_ne _ _ _ (by omega)]
  · rw [mupd_at, fup_ne _ _ (by decide), mupd_at, fup_ne _ _ (by decide)]
  · rw [mupd_at, fup_ne _ _ (by decide), mupd_at, fup_ne _ _ (by decide)]
  · rw [mupd_ne _ _ _ (by omega), mupd_ne _ _ _ (by omega), cpy_ne m (by omega)]
end
section
/-! PURE PROOFS 34: the plan gone through on the page -/
theorem M_plan (d : Nat) {M m : mMem} (hg : Pg M 1 0) (hc : Cht M 1) (e : ∀ i : Int, 0 ≤ i → i < 85 → m 54 i = M 54 i) (but : Int) {n : Nat} (hn : M 1 6 = n) : mN3 (d + 2) 155 [vr 53, vi but] m (fun m' => PgC m' M 340 (plM M but n).1 (plM M but n).2.1 ∧ m' 53 15 = (plM M but n).2.2.1 ∧ m' 53 16 = (plM M but n).2.2.2 ∧ m' 53 17 = m 53 17 ∧ FrM m' m) := by
  have n8 : 0 ≤ M 1 6 ∧ M 1 6 ≤ 8 := hc.2.2.2.1
  have hp := Pg0_of hg
  refine mN3_i ⟨by decide, Nat.le_of_ble_eq_true rfl⟩ (fun K hK => ?_)
  have loop : ∀ (j i : Nat), i + j = n → ∀ m' : mMem, PgC m' M 340 (plM M but i).1 (plM M but i).2.1 → m' 53 15 = (plM M but i).2.2.1 → m' 53 16 = (plM M but i).2.2.2 → (0 ≤ m' 53 15 ∧ m' 53 15 ≤ i) → m' 53 17 = m 53 17 → FrM m' m → K 21 [(0, vr 53), (1, vi but), (2, vi (i : Int))] [] (S0, m') := by
    intro j
    induction j with
    | zero =>
      intro i hi m' h1 h2 h3 h4 h6 h5
      have f60 : m' 54 60 = M 1 6 := by rw [h5.2.2.2.2.2 60 (by decide) (by decide), e 60 (by decide) (by decide), hp.2.2.2.2.1]
      rw [show i = n by omega] at h1 h2 h3
      exact q_M_planGoes_21 hK _ _ m' (br_t (by omega) (rN_i ⟨h1, h2, h3, h6, h5⟩))
    | succ j ih =>
      intro i hi m' h1 h2 h3 h4 h6 h5
      have pg : ∀ x : Int, 0 ≤ x → x < 85 → m' 54 x = M 54 x := fun x a b => by rw [h5.2.2.2.2.2 x a (by omega), e x a b]
      have f60 : m' 54 60 = M 1 6 := by rw [pg 60 (by decide) (by decide), hp.2.2.2.2.1]
      have ps := plM_s M but i
      have ih := fun a b c d e f g => ih (i + 1) a b c d e f g
      have hz : ∃ z : Int, z = (i : Int) := ⟨_, rfl⟩
      obtain ⟨z, hz⟩ := hz
      have ez : ((i + 1 : Nat) : Int) = z + 1 := by omega
      rw [ez] at ih
      rw [← hz] at ps h4 ⊢
      generalize plM M but (i + 1) = r' at ps ih
      generalize plM M but i = r at ps h1 h2 h3
      have zb : 0 ≤ z ∧ z < M 1 6 := by omega
      have hj : i + 1 + j = n := by omega
      clear hz ez hi
      have ew : w32 (z + 1) = z + 1 := w32_s (by omega) (by omega)
      have i1 : w32 (61 + w32 (3 * z)) = 61 + 3 * z := by rw [w32_s (z := 3 * z) (by omega) (by omega), w32_s (by omega) (by omega)]
      have i2 : w32 (61 + 3 * z + 1) = 62 + 3 * z := by
        rw [w32_s (by omega) (by omega)]
        omega
      have i3 : w32 (61 + 3 * z + 2) = 63 + 3 * z := by
        rw [w32_s (by omega) (by omega)]
        omega
      have pr : (0 ≤ M 5 z ∧ M 5 z < 36) ∧ 1 ≤ M 6 z ∧ M 6 z ≤ 3 := hc.2.2.2.2.1 z zb.1 zb.2
      have g : 6 * M 54 (61 + 3 * z) + M 54 (62 + 3 * z) = M 5 z ∧ (0 ≤ M 54 (62 + 3 * z) ∧ M 54 (62 + 3 * z) < 6) ∧ M 54 (63 + 3 * z) = M 6 z := hp.2.2.2.2.2 z zb.1 zb.2
      have i4 : w32 (w32 (6 * M 54 (61 + 3 * z)) + M 54 (62 + 3 * z)) = M 5 z := by
        rw [w32_s (z := 6 * M 54 (61 + 3 * z)) (by omega) (by omega), w32_s (by omega) (by omega)]
        exact g.1
      refine q_M_planGoes_21 hK _ _ m' (br_f (by omega) ⟨fun q => ?_, fun q => ?_⟩)
      · rw [if_pos q] at ps
        rw [ew]
        refine ih hj m' ?_ ?_ ?_ (by omega) h6 h5
        · rw [ps]
          exact h1
        · rw [ps]
          exact h2
        · rw [ps]
          exact h3
      · rw [if_neg q] at ps
        rw [ew, i1, i2, i3, pg (61 + 3 * z) (by omega) (by omega), pg (62 + 3 * z) (by omega) (by omega), pg (63 + 3 * z) (by omega) (by omega), i4, g.2.2]
        have st := G_stitch d h1 (by omega) pr.1 pr.2
        refine mIn_i (by omega) (by omega) (mIn_i (by omega) (by omega) (mIn_i (by omega) (by omega) ⟨_, _, st, ?_⟩))
        by_cases c : r.1 (M 5 z) = 0 ∧ 0 < r.2.1 (M 6 z)
        · rw [if_pos c]
          rw [if_pos c] at ps
          refine br_f (fun w => b2_0.mp w c) ?_
          have s53 : stM m' 340 (M 5 z) (M 6 z) 53 = m' 53 := stM_ne _ _ _ _ (by decide)
          rw [s53, w32_s (z := m' 53 15 + 1) (by omega) (by omega)]
          have qx : ∀ x : Int, x ≠ 15 → mupd (stM m' 340 (M 5 z) (M 6 z)) 53 15 (m' 53 15 + 1) 53 x = m' 53 x := fun x hx => by rw [mupd_at, fup_ne _ _ hx, s53]
          have q15 : mupd (stM m' 340 (M 5 z) (M 6 z)) 53 15 (m' 53 15 + 1) 53 15 = m' 53 15 + 1 := by rw [mupd_at, fup_at]
          refine ih hj _ ?_ ?_ ?_ (by rw [q15]; omega) (by rw [qx 17 (by decide), h6]) (FrM_53 (FrM_st h5 (by decide) pr.1.1 (by omega)) (by decide) (by decide) (by decide) (by decide))
          · rw [ps]
            exact G_eq (G_st h1 hc pr.1 pr.2 c.2) hc (fun x _ _ => by rw [mupd_ne _ _ _ (by decide)])
          · rw [ps, q15, h2]
          · rw [ps, qx 16 (by decide), h3]
        · rw [if_neg c]
          rw [if_neg c] at ps
          refine br_t (b2_f c) ⟨fun w => ?_, fun w => ?_⟩
          · rw [if_neg (by rw [← h3]; exact w)] at ps
            have qx : ∀ x : Int, mupd m' 53 16 (m' 53 16) 53 x = m' 53 x := fun x => by
              rw [mupd_at]
              unfold fup
              split
              · rename_i w
                rw [w]
              · rfl
            refine ih hj _ ?_ ?_ ?_ (by rw [qx 15]; omega) (by rw [qx 17, h6]) (FrM_53 h5 (by decide) (by decide) (by decide) (by decide))
            · rw [ps]
              exact G_eq h1 hc (fun x _ _ => by rw [mupd_ne _ _ _ (by decide)])
            · rw [ps, qx 15, h2]
            · rw [ps, qx 16, h3]
          · have w := Decidable.not_not.mp w
            rw [if_pos (by rw [← h3]; exact w)] at ps
            have qx : ∀ x : Int, x ≠ 16 → mupd m' 53 16 z 53 x = m' 53 x := fun x hx => by rw [mupd_at, fup_ne _ _ hx]
            refine ih hj _ ?_ ?_ ?_ (by rw [qx 15 (by decide)]; omega) (by rw [qx 17 (by decide), h6]) (FrM_53 h5 (by decide) (by decide) (by decide) (by decide))
            · rw [ps]
              exact G_eq h1 hc (fun x _ _ => by rw [mupd_ne _ _ _ (by decide)])
            · rw [ps, qx 15 (by decide), h2]
            · rw [ps, mupd_at, fup_at]
  refine q_M_planGoes_0 hK but m ⟨_, R_copies d m 0 340 (by omega) (by omega) (by omega), ?_⟩
  have tc := G_copy (p := 340) hg hc e
  have c53 : mcpy m 54 0 54 340 85 53 = m 53 := mcpy_ne _ _ _ _ _ (by decide)
  have q16 : mupd (mupd (mcpy m 54 0 54 340 85) 53 15 0) 53 16 (-4) 53 16 = -4 := by rw [mupd_at, fup_at]
  have q15 : mupd (mupd (mcpy m 54 0 54 340 85) 53 15 0) 53 16 (-4) 53 15 = 0 := by rw [mupd_at, fup_ne _ _ (by decide), mupd_at, fup_at]
  refine loop n 0 (by omega) _ (G_eq tc hc (fun x _ _ => ?_)) q15 q16 (by rw [q15]; omega) ?_ (FrM_53 (FrM_53 (FrM_cpy (FrM_refl m) (by decide)) (by decide) (by decide) (by decide) (by decide)) (by decide) (by decide) (by decide) (by decide))
  · rw [mupd_ne _ _ _ (by decide), mupd_ne _ _ _ (by decide)]
  · rw [mupd_at, fup_ne _ _ (by decide), mupd_at, fup_ne _ _ (by decide), c53]
end
section
/-! PURE PROOFS 35: runs, ahead, leave -/
def off (st : Int × Int) (code v : Int) : Int × Int := if v ≤ st.2 then st else (code, v)
def tld (st : Int × Int) (x : Int) : Int := if st.1 = -4 then st.1 else if x ≠ 0 then st.2 else st.1
def ChC (m : mMem) (st : Int × Int) : Prop := m 37 0 = st.1 ∧ m 37 1 = st.2
theorem C_begin (d : Nat) (m : mMem) (v : Int) : mN3 (d + 1) 21 [vr 37, vi v] m (fun m' => ChC m' (-4, v) ∧ ∀ k : Nat, k ≠ 37 → m' k = m k) := by
  refine mN3_i ⟨by decide, Nat.le_of_ble_eq_true rfl⟩ (fun K hK => q_O_begin_0 hK v m (rN_i ⟨⟨?_, ?_⟩, fun k hk => ?_⟩))
  · rw [mupd_at, fup_ne _ _ (by decide), mupd_at, fup_at]
  · rw [mupd_at, fup_at]
  · rw [mupd_ne _ _ _ hk, mupd_ne _ _ _ hk]
theorem C_offer (d : Nat) {m : mMem} {st : Int × Int} (h : ChC m st) (code v : Int) : mN3 (d + 1) 22 [vr 37, vi code, vi v] m (fun m' => ChC m' (off st code v) ∧ ∀ k : Nat, k ≠ 37 → m' k = m k) := by
  refine mN3_i ⟨by decide, Nat.le_of_ble_eq_true rfl⟩ (fun K hK => q_O_offer_0 hK code v m ⟨fun q => rN_i ⟨?_, fun k hk => rfl⟩, fun q => rN_i ⟨?_, fun k hk => ?_⟩⟩)
  · unfold off
    rw [if_pos (by rw [← h.2]; exact q)]
    exact h
  · unfold off
    rw [if_neg (by rw [← h.2]; exact q)]
    exact ⟨by rw [mupd_at, fup_ne _ _ (by decide), mupd_at, fup_at], by rw [mupd_at, fup_at]⟩
  · rw [mupd_ne _ _ _ hk, mupd_ne _ _ _ hk]
theorem C_told (d : Nat) {m : mMem} {st : Int × Int} (h : ChC m st) (x : Int) : mR3 (d + 1) 23 [vr 37, vi x] (S0, m) (some (vi (tld st x)), (S0, m)) := by
  refine ⟨⟨by decide, Nat.le_of_ble_eq_true rfl⟩, fun K hK => q_O_told_0 hK x m ?_⟩
  rw [h.1, h.2]
  unfold tld
  refine ⟨fun q => mret_i ?_ rfl, fun q => ⟨fun q2 => mret_i ?_ rfl, fun q2 => mret_i ?_ rfl⟩⟩
  · rw [if_pos q]
  · rw [if_neg q, if_pos q2]
  · rw [if_neg q, if_neg q2]
theorem G_more (d : Nat) (m : mMem) (v : Int) : mI3 (d + 1) 158 [vr 53, vi v] m (fun w m' => w = b2 (m 53 17 < v) ∧ m' 53 17 = (if v ≤ m 53 17 then m 53 17 else v) ∧ m' 54 = m 54 ∧ FrM m' m) := by
  refine mI3_i ⟨by decide, Nat.le_of_ble_eq_true rfl⟩ (fun K hK => q_M_isMore_0 hK v m ⟨fun q => q_M_isMore_13 hK v 0 m (br_t rfl (mBo_i (Or.inl rfl) (rI_i ⟨?_, ?_, ?_, ?_⟩))), fun q => q_M_isMore_13 hK v 1 m (br_f (by decide) (mBo_i (Or.inr rfl) (rI_i ⟨?_, ?_, ?_, ?_⟩)))⟩)
  · rw [b2_f (by omega)]
  · rw [mupd_at, fup_at, if_pos q]
  · exact mupd_ne _ _ _ (by decide)
  · exact FrM_53 (FrM_refl m) (by decide) (by decide) (by decide) (by decide)
  · rw [b2_t (by omega)]
  · rw [mupd_at, fup_at, if_neg q]
  · exact mupd_ne _ _ _ (by decide)
  · exact FrM_53 (FrM_refl m) (by decide) (by decide) (by decide) (by decide)
theorem FrL_lo {m M : mMem} (h : FrL m M) : (∀ k : Nat, 1 ≤ k → k ≤ 8 → m k = M k) ∧ m 54 = M 54 := ⟨fun k a b => h.1 k (by omega), h.1 54 (by omega)⟩
theorem P_runs {M : mMem} (h : Inv M) (x : Int) : PairI 63 156 [vi x] M := by
  have hc := h.1
  have n8 : 0 ≤ M 1 6 ∧ M 1 6 ≤ 8 := hc.2.2.2.1
  have n5 : 0 ≤ M 1 5 ∧ M 1 5 ≤ 5 := hc.2.1
  obtain ⟨n, hn⟩ : ∃ n : Nat, M 1 6 = n := ⟨(M 1 6).toNat, by omega⟩
  obtain ⟨k, hk⟩ : ∃ k : Nat, M 1 5 = k := ⟨(M 1 5).toNat, by omega⟩
  have k5 : k ≤ 5 := by omega
  by_cases c : 0 ≤ x ∧ x ≤ 3
  · refine ask_pair (V := if x = 0 then woS (M 4) (plM M (-4) n).1 k else if x = 1 then hbF (fun l => rdL (M 4) (plM M (-4) n).1 l) k else if x = 2 then (plM M (-4) n).2.2.1 else (plM M (-4) n).2.2.2) h ?_ (fun m hm => ?_)
    · refine mI3_i ⟨by decide, Nat.le_of_ble_eq_true rfl⟩ (fun K hK => q_L_runs_0 hK x M (br_f (by omega) (br_t c.2 (cN (L_follow 4 hc (fun _ _ _ => rfl) (-4) hn) (fun m' p => ?_)))))
      obtain ⟨p1, p2, p3, p4⟩ := p
      have fl : FrL m' M := FrL_row (FrL_refl M) (fun k a _ _ _ _ _ => p4 k a)
      refine ⟨⟨fun q => ⟨_, _, T_worth 6 p1 hk k5, rI_i ⟨?_, fl⟩⟩, fun q => ⟨_, _, T_held 6 p1 hk k5, rI_i ⟨?_, fl⟩⟩, fun q => rI_i ⟨?_, fl⟩, trivial⟩, fun q => rI_i ⟨?_, fl⟩⟩
      · rw [if_pos (by omega)]
      · rw [if_neg (by omega), if_pos (by omega)]
      · rw [if_neg (by omega), if_neg (by omega), if_pos (by omega), p2]
      · rw [if_neg (by omega), if_neg (by omega), if_neg (by omega), p3]
    · refine mI3_i ⟨by decide, Nat.le_of_ble_eq_true rfl⟩ (fun K hK => q_M_runs_0 hK x m ⟨_, _, R_in 8 _ _ _ _, br_t (b2_n0.mpr (by omega)) (cN (M_plan 7 h.2.1 hc (fun i _ _ => by rw [(FrL_lo hm).2]) (-4) hn) (fun m' p => ?_))⟩)
      obtain ⟨p1, p2, p3, _, p4⟩ := p
      refine ⟨fun q => ⟨fun q1 => ⟨fun q2 => rI_i ⟨?_, p4⟩, fun q2 => rI_i ⟨?_, p4⟩⟩, fun q1 => ⟨_, _, G_held 6 p1 (by omega) hc hk k5, rI_i ⟨?_, p4⟩⟩⟩, fun q => ⟨_, _, G_worth 6 p1 (by omega) hc hk k5, rI_i ⟨?_, p4⟩⟩⟩
      · rw [if_neg q, if_neg q1, if_neg q2, p3]
      · rw [if_neg q, if_neg q1, if_pos (Decidable.not_not.mp q2), p2]
      · rw [if_neg q, if_pos (Decidable.not_not.mp q1)]
      · rw [if_pos (Decidable.not_not.mp q)]
  · exact ⟨-1, M, M, ⟨⟨by decide, Nat.le_of_ble_eq_true rfl⟩, fun K hK => q_L_runs_0 hK x M ⟨fun _ => mret_i rfl rfl, fun q => br_f (by omega) (mret_i rfl rfl)⟩⟩, ⟨⟨by decide, Nat.le_of_ble_eq_true rfl⟩, fun K hK => q_M_runs_0 hK x M ⟨_, _, R_in 8 _ _ _ _, br_f (fun q => c (b2_n0.mp q)) (mret_i rfl rfl)⟩⟩, h⟩
theorem P_ahead {M : mMem} (h : Inv M) (x y : Int) : PairI 64 157 [vi x, vi y] M := by
  have hc := h.1
  have n8 : 0 ≤ M 1 6 ∧ M 1 6 ≤ 8 := hc.2.2.2.1
  obtain ⟨n, hn⟩ : ∃ n : Nat, M 1 6 = n := ⟨(M 1 6).toNat, by omega⟩
  by_cases c : 0 ≤ x ∧ x < 6 ∧ 0 ≤ y ∧ y < 6
  · have i1 : w32 (w32 (340 + w32 (6 * x)) + y) = 340 + (6 * x + y) := by
      rw [w32_s (z := 6 * x) (by omega) (by omega), w32_s (z := 340 + 6 * x) (by omega) (by omega), w32_s (by omega) (by omega)]
      omega
    refine ask_pair (V := (plM M (-4) n).1 (6 * x + y)) h ?_ (fun m hm => ?_)
    · refine mI3_i ⟨by decide, Nat.le_of_ble_eq_true rfl⟩ (fun K hK => q_L_ahead_0 hK x y M ⟨_, _, R_isCell 8 M x y, br_t (b2_n0.mpr c) (cN (L_follow 4 hc (fun _ _ _ => rfl) (-4) hn) (fun m' p => ?_))⟩)
      obtain ⟨p1, p2, p3, p4⟩ := p
      have fl : FrL m' M := FrL_row (FrL_refl M) (fun k a _ _ _ _ _ => p4 k a)
      exact ⟨_, _, R_place 8 m' (x := x) (y := y) (by omega) (by omega), mIn_i (by omega) (by omega) (rI_i ⟨p1.2.1 _ (by omega) (by omega), fl⟩)⟩
    · refine mI3_i ⟨by decide, Nat.le_of_ble_eq_true rfl⟩ (fun K hK => q_M_ahead_0 hK x y m ⟨_, _, R_mIsCell 7 m x y, br_t (b2_n0.mpr c) (cN (M_plan 7 h.2.1 hc (fun i _ _ => by rw [(FrL_lo hm).2]) (-4) hn) (fun m' p => ?_))⟩)
      obtain ⟨p1, p2, p3, _, p4⟩ := p
      rw [i1]
      exact mIn_i (by omega) (by omega) (rI_i ⟨p1.1 _ (by omega) (by omega), p4⟩)
  · exact ⟨-1, M, M, ⟨⟨by decide, Nat.le_of_ble_eq_true rfl⟩, fun K hK => q_L_ahead_0 hK x y M ⟨_, _, R_isCell 8 M x y, br_f (fun q => c (b2_n0.mp q)) (mret_i rfl rfl)⟩⟩, ⟨⟨by decide, Nat.le_of_ble_eq_true rfl⟩, fun K hK => q_M_ahead_0 hK x y M ⟨_, _, R_mIsCell 7 M x y, br_f (fun q => c (b2_n0.mp q)) (mret_i rfl rfl)⟩⟩, h⟩
end
section
/-! PURE PROOFS 36: leave -/
/-- the choice after i offers -/
def chS (o : Nat → Int × Int) (v : Int) : Nat → Int × Int
  | 0 => (-4, v)
  | i + 1 => off (chS o v i) (o i).1 (o i).2
theorem chS_s (o : Nat → Int × Int) (v : Int) (i : Nat) : chS o v (i + 1) = off (chS o v i) (o i).1 (o i).2 := rfl
/-- which and most, as the other keeps them -/
def WhM (m : mMem) (w : Int) (st : Int × Int) : Prop := w = st.1 ∧ m 53 17 = st.2
theorem W_more {m m' : mMem} {w v x code : Int} {st : Int × Int} (h : WhM m w st) (hx : x = b2 (m 53 17 < v)) (h7 : m' 53 17 = (if v ≤ m 53 17 then m 53 17 else v)) : WhM m' (if x = 0 then w else code) (off st code v) := by
  unfold off
  rw [← h.2]
  by_cases q : v ≤ m 53 17
  · rw [if_pos q] at h7 ⊢
    rw [hx, b2_f (by omega), if_pos rfl]
    exact ⟨h.1, by rw [h7, h.2]⟩
  · rw [if_neg q] at h7 ⊢
    rw [hx, b2_t (by omega), if_neg (by decide)]
    exact ⟨rfl, h7⟩
theorem W_told {m : mMem} {w : Int} {st : Int × Int} (h : WhM m w st) (x : Int) : (if w = -4 then w else if x ≠ 0 then m 53 17 else w) = tld st x := by
  unfold tld
  rw [h.1, h.2]
theorem P_leave {M : mMem} (h : Inv M) (x : Int) : PairI 70 166 [vi x] M := by
  have hc := h.1
  have n8 : 0 ≤ M 1 6 ∧ M 1 6 ≤ 8 := hc.2.2.2.1
  have n5 : 0 ≤ M 1 5 ∧ M 1 5 ≤ 5 := hc.2.1
  have p6 : M 54 60 = M 1 6 := (Pg0_of h.2.1).2.2.2.2.1
  obtain ⟨n, hn⟩ : ∃ n : Nat, M 1 6 = n := ⟨(M 1 6).toNat, by omega⟩
  obtain ⟨k, hk⟩ : ∃ k : Nat, M 1 5 = k := ⟨(M 1 5).toNat, by omega⟩
  have k5 : k ≤ 5 := by omega
  have nn : n ≤ 8 := by omega
  by_cases c : x = 0 ∨ x = 1
  · obtain ⟨o, ho⟩ : ∃ o : Nat → Int × Int, o = fun (i : Nat) => ((i : Int), woS (M 4) (plM M (i : Int) n).1 k) := ⟨_, rfl⟩
    refine ask_pair (V := tld (chS o (woS (M 4) (plM M (-4) n).1 k) n) x) h ?_ (fun m hm => ?_)
    · refine mI3_i ⟨by decide, Nat.le_of_ble_eq_true rfl⟩ (fun K hK => ?_)
      have loop : ∀ (j i : Nat), i + j = n → ∀ m' : mMem, ChC m' (chS o (woS (M 4) (plM M (-4) n).1 k) i) → FrL m' M → K 31 [(0, vr 0), (1, vi x), (2, vi (i : Int))] [] (S0, m') := by
        intro j
        induction j with
        | zero =>
          intro i hi m' h1 h2
          have e6 : m' 1 6 = n := by rw [(FrL_lo h2).1 1 (by decide) (by decide), hn]
          rw [show i = n by omega] at h1 ⊢
          exact q_L_leave_31 hK _ _ m' (br_t (by rw [e6]; exact Int.le_refl _) ⟨_, _, C_told 8 h1 x, rI_i ⟨rfl, h2⟩⟩)
        | succ j ih =>
          intro i hi m' h1 h2
          have e6 : m' 1 6 = n := by rw [(FrL_lo h2).1 1 (by decide) (by decide), hn]
          have ew : w32 ((i : Int) + 1) = ((i + 1 : Nat) : Int) := by rw [w32_s (by omega) (by omega)]; omega
          refine q_L_leave_31 hK _ _ m' (br_f (by rw [e6]; omega) (cN (L_follow 4 hc (fun k a b => (FrL_lo h2).1 k a b) (i : Int) hn) (fun m1 p => ?_)))
          obtain ⟨p1, _, _, p4⟩ := p
          have c1 : ChC m1 (chS o (woS (M 4) (plM M (-4) n).1 k) i) := by
            unfold ChC
            rw [p4 37 (by omega)]
            exact h1
          refine ⟨_, _, T_worth 6 p1 hk k5, cN (C_offer 8 c1 _ _) (fun m2 p => ?_)⟩
          rw [ew]
          refine ih (i + 1) (by omega) m2 ?_ (FrL_row (FrL_row h2 (fun k a _ _ _ _ _ => p4 k a)) (fun k _ a _ _ _ _ => p.2 k a))
          rw [chS_s, ho]
          rw [ho] at p
          exact p.1
      refine q_L_leave_0 hK x M ⟨_, _, R_isPart 8 M x, br_t (b2_n0.mpr c) (cN (L_follow 4 hc (fun _ _ _ => rfl) (-4) hn) (fun m1 p => ?_))⟩
      obtain ⟨p1, _, _, p4⟩ := p
      exact ⟨_, _, T_worth 6 p1 hk k5, cN (C_begin 8 m1 _) (fun m2 p => loop n 0 (by omega) m2 p.1 (FrL_row (FrL_row (FrL_refl M) (fun k a _ _ _ _ _ => p4 k a)) (fun k _ a _ _ _ _ => p.2 k a)))⟩
    · refine mI3_i ⟨by decide, Nat.le_of_ble_eq_true rfl⟩ (fun K hK => ?_)
      have m54 := (FrL_lo hm).2
      have loop : ∀ (j i : Nat), i + j = n → ∀ (m' : mMem) (w : Int), WhM m' w (chS o (woS (M 4) (plM M (-4) n).1 k) i) → FrM m' m → K 34 [(0, vr 53), (1, vi x), (2, vi w), (3, vi (i : Int))] [] (S0, m') := by
        intro j
        induction j with
        | zero =>
          intro i hi m' w h1 h2
          have e6 : m' 54 60 = n := by rw [h2.2.2.2.2.2 60 (by decide) (by decide), m54, p6, hn]
          rw [show i = n by omega] at h1 ⊢
          have t := W_told h1 x
          refine q_M_leave_34 hK _ _ _ m' (br_t (by rw [e6]; exact Int.le_refl _) ⟨fun q => rI_i ⟨?_, h2⟩, fun q => ⟨fun q2 => rI_i ⟨?_, h2⟩, fun q2 => rI_i ⟨?_, h2⟩⟩⟩)
          · rw [← t, if_pos q]
          · rw [← t, if_neg q, if_pos q2]
          · rw [← t, if_neg q, if_neg q2]
        | succ j ih =>
          intro i hi m' w h1 h2
          have e6 : m' 54 60 = n := by rw [h2.2.2.2.2.2 60 (by decide) (by decide), m54, p6, hn]
          have ew : w32 ((i : Int) + 1) = ((i + 1 : Nat) : Int) := by rw [w32_s (by omega) (by omega)]; omega
          refine q_M_leave_34 hK _ _ _ m' (br_f (by rw [e6]; omega) (cN (M_plan 7 h.2.1 hc (fun a q0 q1 => by rw [h2.2.2.2.2.2 a q0 (by omega), m54]) (i : Int) hn) (fun m1 p => ?_)))
          obtain ⟨p1, _, _, p7, p4⟩ := p
          refine ⟨_, _, G_worth 6 p1 (by omega) hc hk k5, cI (G_more 8 m1 _) (fun v m2 p => ?_)⟩
          obtain ⟨v1, v2, _, v4⟩ := p
          have c1 : WhM m1 w (chS o (woS (M 4) (plM M (-4) n).1 k) i) := ⟨h1.1, by rw [p7, h1.2]⟩
          have c2 := W_more (code := (i : Int)) c1 v1 v2
          have c3 : WhM m2 (if v = 0 then w else (i : Int)) (chS o (woS (M 4) (plM M (-4) n).1 k) (i + 1)) := by
            rw [chS_s, ho]
            rw [ho] at c2
            exact c2
          have h3 := ih (i + 1) (by omega) m2 _ c3 (FrM_trans v4 (FrM_trans p4 h2))
          rw [ew]
          refine ⟨fun q => ?_, fun q => ?_⟩
          · rw [if_pos q] at h3
            exact h3
          · rw [if_neg q] at h3
            exact h3
      refine q_M_leave_0 hK x m ⟨_, _, R_in 8 _ _ _ _, br_t (b2_n0.mpr (by omega)) (cN (M_plan 7 h.2.1 hc (fun a q0 q1 => by rw [m54]) (-4) hn) (fun m1 p => ?_))⟩
      obtain ⟨p1, _, _, _, p4⟩ := p
      exact ⟨_, _, G_worth 6 p1 (by omega) hc hk k5, loop n 0 (by omega) _ _ ⟨rfl, by rw [mupd_at, fup_at]; rfl⟩ (FrM_53 p4 (by decide) (by decide) (by decide) (by decide))⟩
  · exact ⟨-1, M, M, ⟨⟨by decide, Nat.le_of_ble_eq_true rfl⟩, fun K hK => q_L_leave_0 hK x M ⟨_, _, R_isPart 8 M x, br_f (fun q => c (b2_n0.mp q)) (mret_i rfl rfl)⟩⟩, ⟨⟨by decide, Nat.le_of_ble_eq_true rfl⟩, fun K hK => q_M_leave_0 hK x M ⟨_, _, R_in 8 _ _ _ _, br_f (fun q => c (by have q := b2_n0.mp q; omega)) (mret_i rfl rfl)⟩⟩, h⟩
end
section
/-! PURE PROOFS 37: turn -/
theorem T_cong {m M : mMem} {f g s : Int → Int} (h : TrC m M f s) (e : ∀ i : Int, 0 ≤ i → i < 36 → f i = g i) : TrC m M g s :=
  ⟨h.1, fun i a b => by rw [h.2.1 i a b, e i a b], h.2.2⟩
theorem G_cong {m M : mMem} {p : Int} {f g s : Int → Int} (h : PgC m M p f s) (e : ∀ i : Int, 0 ≤ i → i < 36 → f i = g i) : PgC m M p g s :=
  ⟨fun i a b => by rw [h.1 i a b, e i a b], h.2⟩
theorem G_0 {m M : mMem} (h : Pg M 1 0) (hc : Cht M 1) (e : ∀ i : Int, 0 ≤ i → i < 85 → m 54 i = M 54 i) : PgC m M 0 (M 2) (M 3) := by
  obtain ⟨g1, g2, g3, g4, g5, g6⟩ := h
  have b5 : 0 ≤ M 1 5 ∧ M 1 5 ≤ 5 := hc.2.1
  refine ⟨fun i q0 q1 => ?_, fun x q0 q1 => ⟨?_, hc.2.2.2.2.2 x q0 q1⟩, ?_, fun l x q0 q1 q2 q3 => ?_⟩
  · rw [e _ (by omega) (by omega)]
    exact g1 i q0 q1
  · rw [e _ (by omega) (by omega)]
    exact g2 x q0 q1
  · rw [e _ (by omega) (by omega)]
    exact g3
  · rw [e _ (by omega) (by omega)]
    exact g4 l x q0 q1 q2 q3
def tuF (f : Int → Int) (y : Int) : Int → Int := fun i => if i % 6 = y then f (30 + 2 * y - i) else f i
theorem tuF_2 (f : Int → Int) (y : Int) (hy : 0 ≤ y ∧ y < 6) (i : Int) : tuF (tuF f y) y i = f i := by
  unfold tuF
  by_cases q : i % 6 = y
  · rw [if_pos q, if_pos (by omega), show 30 + 2 * y - (30 + 2 * y - i) = i by omega]
  · rw [if_neg q, if_neg q]
theorem T_turn {m M : mMem} {f s : Int → Int} {y : Int} (h : TrC m M f s) (hy : 0 ≤ y ∧ y < 6) : TrC (trM m 9 y 3) M (tuF f y) s := by
  obtain ⟨c, h1, h2, h3, h4, h5, h6, h7⟩ := h
  have cc := trM_cht c hy 3 (by decide)
  have e : ∀ k : Nat, k ≠ 10 → k ≠ 15 → k ≠ 16 → trM m 9 y 3 k = m k := fun k a b c => trM_ne m 9 y a b c 3
  have e1 : ∀ i : Int, 0 ≤ i → i < 36 → trM m 9 y 3 10 i = tuF f y i := fun i a b => by
    have g := trM_cel m 9 hy 3 (by decide) i a b
    have g : trM m 9 y 3 10 i = if i % 6 = y ∧ (i / 6 < ((3 : Nat) : Int) ∨ 5 - ((3 : Nat) : Int) < i / 6) then m 10 (30 + 2 * y - i) else m 10 i := g
    rw [g]
    unfold tuF
    by_cases q : i % 6 = y
    · rw [if_pos ⟨q, by omega⟩, if_pos q, h1 _ (by omega) (by omega)]
    · rw [if_neg (fun z => q z.1), if_neg q, h1 i a b]
  unfold TrC
  rw [e 11 (by decide) (by decide) (by decide), e 12 (by decide) (by decide) (by decide), e 13 (by decide) (by decide) (by decide), e 14 (by decide) (by decide) (by decide), e 9 (by decide) (by decide) (by decide)]
  exact ⟨cc, e1, h2, h3, h4, h5, h6, h7⟩
theorem P_turn {M : mMem} (h : Inv M) (x : Int) : PairI 69 165 [vi x] M := by
  have hc := h.1
  have hp := Pg0_of h.2.1
  have n5 : 0 ≤ M 1 5 ∧ M 1 5 ≤ 5 := hc.2.1
  obtain ⟨k, hk⟩ : ∃ k : Nat, M 1 5 = k := ⟨(M 1 5).toNat, by omega⟩
  have k5 : k ≤ 5 := by omega
  by_cases c : x = 0 ∨ x = 1
  · obtain ⟨o, ho⟩ : ∃ o : Nat → Int × Int, o = fun (i : Nat) => ((i : Int), woS (M 4) (tuF (M 2) i) k) := ⟨_, rfl⟩
    refine ask_pair (V := tld (chS o (woS (M 4) (M 2) k) 6) x) h ?_ (fun m hm => ?_)
    · refine mI3_i ⟨by decide, Nat.le_of_ble_eq_true rfl⟩ (fun K hK => ?_)
      have loop : ∀ (j i : Nat), i + j = 6 → ∀ m' : mMem, TrC m' M (M 2) (M 3) → ChC m' (chS o (woS (M 4) (M 2) k) i) → FrL m' M → K 36 [(0, vr 0), (1, vi x), (2, vi (i : Int))] [] (S0, m') := by
        intro j
        induction j with
        | zero =>
          intro i hi m' h0 h1 h2
          rw [show i = 6 by omega] at h1 ⊢
          exact q_L_turn_36 hK _ _ m' (br_t (by decide) ⟨_, _, C_told 8 h1 x, rI_i ⟨rfl, h2⟩⟩)
        | succ j ih =>
          intro i hi m' h0 h1 h2
          have ew : w32 ((i : Int) + 1) = ((i + 1 : Nat) : Int) := by rw [w32_s (by omega) (by omega)]; omega
          have iy : 0 ≤ (i : Int) ∧ (i : Int) < 6 := by omega
          have t1 := T_turn h0 iy
          have u1 : ∀ k : Nat, k ≠ 10 → k ≠ 15 → k ≠ 16 → trM m' 9 i 3 k = m' k := fun k a b c => trM_ne m' 9 i a b c 3
          have c1 : ChC (trM m' 9 i 3) (chS o (woS (M 4) (M 2) k) i) := by
            unfold ChC
            rw [u1 37 (by decide) (by decide) (by decide)]
            exact h1
          refine q_L_turn_36 hK _ _ m' (br_f (by omega) ⟨_, R_turnRow 6 m' 9 (by omega) i iy h0.1, _, _, T_worth 6 t1 hk k5, cN (C_offer 8 c1 _ _) (fun m2 p => ?_)⟩)
          obtain ⟨p1, p2⟩ := p
          have t2 : TrC m2 M (tuF (M 2) i) (M 3) := T_eq t1 (fun k a b => p2 k (by omega)) (by rw [p2 9 (by decide)]) (by rw [p2 9 (by decide)])
          have t3 := T_cong (T_turn t2 iy) (fun z _ _ => tuF_2 (M 2) i iy z)
          have u2 : ∀ k : Nat, k ≠ 10 → k ≠ 15 → k ≠ 16 → trM m2 9 i 3 k = m2 k := fun k a b c => trM_ne m2 9 i a b c 3
          refine ⟨_, R_turnRow 6 m2 9 (by omega) i iy t2.1, ?_⟩
          rw [ew]
          refine ih (i + 1) (by omega) _ t3 ?_ (FrL_row (FrL_row (FrL_row h2 (fun k a _ _ _ _ _ => u1 k (by omega) (by omega) (by omega))) (fun k _ a _ _ _ _ => p2 k a)) (fun k a _ _ _ _ _ => u2 k (by omega) (by omega) (by omega)))
          unfold ChC
          rw [u2 37 (by decide) (by decide) (by decide), chS_s, ho]
          rw [ho] at p1
          exact p1
      have t0 := T_copy (m := M) hc (fun _ _ _ => rfl)
      refine q_L_turn_0 hK x M ⟨_, _, R_isPart 8 M x, br_t (b2_n0.mpr c) ⟨_, R_copyFrom 8 M 9 1 (by unfold cpP; omega), _, _, T_worth 6 t0 hk k5, cN (C_begin 8 _ _) (fun m2 p => ?_)⟩⟩
      exact loop 6 0 (by omega) m2 (T_eq t0 (fun k a b => p.2 k (by omega)) (by rw [p.2 9 (by decide)]) (by rw [p.2 9 (by decide)])) p.1 (FrL_row (FrL_row (FrL_refl M) (fun k a _ _ _ _ _ => cpy_ne M (by omega))) (fun k _ a _ _ _ _ => p.2 k a))
    · refine mI3_i ⟨by decide, Nat.le_of_ble_eq_true rfl⟩ (fun K hK => ?_)
      have m54 := (FrL_lo hm).2
      have inner : ∀ (w : Int) (y : Nat), y < 6 → ∀ (m0 : mMem), (∀ m', PgC m' M 340 (tuF (M 2) y) (M 3) → m' 53 17 = m0 53 17 → FrM m' m → K 43 [(0, vr 53), (1, vi x), (2, vi w), (3, vi (y : Int)), (4, vi 6)] [] (S0, m')) → ∀ (j i : Nat), i + j = 6 → ∀ m', PgC m' M 340 (fun z => if z % 6 = (y : Int) ∧ z / 6 < (i : Int) then M 2 (30 + 2 * (y : Int) - z) else M 2 z) (M 3) → m' 53 17 = m0 53 17 → FrM m' m → K 43 [(0, vr 53), (1, vi x), (2, vi w), (3, vi (y : Int)), (4, vi (i : Int))] [] (S0, m') := by
        intro w y hy m0 fin j
        induction j with
        | zero =>
          intro i hi m' h1 h2 h3
          rw [show i = 6 by omega] at h1 ⊢
          refine fin m' (G_cong h1 (fun z a b => ?_)) h2 h3
          unfold tuF
          by_cases q : z % 6 = (y : Int)
          · rw [if_pos ⟨q, by omega⟩, if_pos q]
          · rw [if_neg (fun r => q r.1), if_neg q]
        | succ j ih =>
          intro i hi m' h1 h2 h3
          have h4 := ih (i + 1) (by omega)
          have hz : ∃ z u : Int, z = (i : Int) ∧ u = (y : Int) := ⟨_, _, rfl, rfl⟩
          obtain ⟨z, u, hz, hu⟩ := hz
          have ez : ((i + 1 : Nat) : Int) = z + 1 := by omega
          rw [ez, ← hu] at h4
          rw [← hz, ← hu] at h1
          rw [← hz, ← hu]
          have zb : 0 ≤ z ∧ z < 6 ∧ 0 ≤ u ∧ u < 6 := by omega
          clear hz hu ez hi hy
          have ew : w32 (z + 1) = z + 1 := w32_s (by omega) (by omega)
          have i1 : w32 (w32 (6 * w32 (5 - z)) + u) = 30 - 6 * z + u := by
            rw [w32_s (z := 5 - z) (by omega) (by omega), w32_s (z := 6 * (5 - z)) (by omega) (by omega), w32_s (by omega) (by omega)]
            omega
          have i2 : w32 (w32 (340 + w32 (6 * z)) + u) = 340 + (6 * z + u) := by
            rw [w32_s (z := 6 * z) (by omega) (by omega), w32_s (z := 340 + 6 * z) (by omega) (by omega), w32_s (by omega) (by omega)]
            omega
          have pv : m' 54 (30 - 6 * z + u) = M 2 (30 - 6 * z + u) := by rw [h3.2.2.2.2.2 _ (by omega) (by omega), m54, hp.1 _ (by omega) (by omega)]
          refine q_M_turn_43 hK _ _ _ _ m' (br_f (by omega) ?_)
          rw [ew, i1, i2, pv]
          refine mIn_i (by omega) (by omega) (mIn_i (by omega) (by omega) (h4 _ (G_cong (G_set h1 hc (t := 6 * z + u) (by omega)) (fun q a b => ?_)) ?_ (FrM_set h3 (by omega))))
          · unfold fup
            by_cases r : q = 6 * z + u
            · rw [if_pos r, if_pos (by omega), show 30 + 2 * u - q = 30 - 6 * z + u by omega]
            · rw [if_neg r]
              show (if q % 6 = u ∧ q / 6 < z then M 2 (30 + 2 * u - q) else M 2 q) = if q % 6 = u ∧ q / 6 < z + 1 then M 2 (30 + 2 * u - q) else M 2 q
              by_cases r2 : q % 6 = u ∧ q / 6 < z
              · rw [if_pos r2, if_pos (by omega)]
              · rw [if_neg r2, if_neg (by omega)]
          · rw [mupd_ne _ _ _ (by decide)]
            exact h2
      have loop : ∀ (j i : Nat), i + j = 6 → ∀ (m' : mMem) (w : Int), WhM m' w (chS o (woS (M 4) (M 2) k) i) → FrM m' m → K 26 [(0, vr 53), (1, vi x), (2, vi w), (3, vi (i : Int))] [] (S0, m') := by
        intro j
        induction j with
        | zero =>
          intro i hi m' w h1 h2
          rw [show i = 6 by omega] at h1 ⊢
          have t := W_told h1 x
          refine q_M_turn_26 hK _ _ _ m' (br_t (by decide) ⟨fun q => rI_i ⟨?_, h2⟩, fun q => ⟨fun q2 => rI_i ⟨?_, h2⟩, fun q2 => rI_i ⟨?_, h2⟩⟩⟩)
          · rw [← t, if_pos q]
          · rw [← t, if_neg q, if_pos q2]
          · rw [← t, if_neg q, if_neg q2]
        | succ j ih =>
          intro i hi m' w h1 h2
          have ew : w32 ((i : Int) + 1) = ((i + 1 : Nat) : Int) := by rw [w32_s (by omega) (by omega)]; omega
          refine q_M_turn_26 hK _ _ _ m' (br_f (by omega) ⟨_, R_copies 8 m' 0 340 (by omega) (by omega) (by omega), ?_⟩)
          have g := G_copy (m := m') (p := 340) h.2.1 hc (fun a q0 q1 => by rw [h2.2.2.2.2.2 a q0 (by omega), m54])
          refine inner w i (by omega) m' (fun m1 p1 p7 p4 => ?_) 6 0 (by omega) _ (G_cong g (fun z a b => ?_)) (by rw [mcpy_ne _ _ _ _ _ (by decide)]) (FrM_cpy h2 (by decide))
          · refine q_M_turn_43 hK _ _ _ _ m1 (br_t (by decide) ⟨_, _, G_worth 6 p1 (by omega) hc hk k5, cI (G_more 8 m1 _) (fun v m2 p => ?_)⟩)
            obtain ⟨v1, v2, _, v4⟩ := p
            have c1 : WhM m1 w (chS o (woS (M 4) (M 2) k) i) := ⟨h1.1, by rw [p7, h1.2]⟩
            have c2 := W_more (code := (i : Int)) c1 v1 v2
            have c3 : WhM m2 (if v = 0 then w else (i : Int)) (chS o (woS (M 4) (M 2) k) (i + 1)) := by
              rw [chS_s, ho]
              rw [ho] at c2
              exact c2
            have h3 := ih (i + 1) (by omega) m2 _ c3 (FrM_trans v4 p4)
            rw [ew]
            refine ⟨fun q => ?_, fun q => ?_⟩
            · rw [if_pos q] at h3
              exact h3
            · rw [if_neg q] at h3
              exact h3
          · show M 2 z = if z % 6 = (i : Int) ∧ z / 6 < 0 then M 2 (30 + 2 * (i : Int) - z) else M 2 z
            rw [if_neg (by omega)]
      refine q_M_turn_0 hK x m ⟨_, _, R_in 8 _ _ _ _, br_t (b2_n0.mpr (by omega)) ⟨_, _, G_worth 6 (G_0 h.2.1 hc (fun a q0 q1 => by rw [m54])) (by omega) hc hk k5, ?_⟩⟩
      exact loop 6 0 (by omega) _ _ ⟨rfl, by rw [mupd_at, fup_at]; rfl⟩ (FrM_53 (FrM_refl m) (by decide) (by decide) (by decide) (by decide))
  · exact ⟨-1, M, M, ⟨⟨by decide, Nat.le_of_ble_eq_true rfl⟩, fun K hK => q_L_turn_0 hK x M ⟨_, _, R_isPart 8 M x, br_f (fun q => c (b2_n0.mp q)) (mret_i rfl rfl)⟩⟩, ⟨⟨by decide, Nat.le_of_ble_eq_true rfl⟩, fun K hK => q_M_turn_0 hK x M ⟨_, _, R_in 8 _ _ _ _, br_f (fun q => c (by have q := b2_n0.mp q; omega)) (mret_i rfl rfl)⟩⟩, h⟩
end
section
/-! PURE PROOFS 38: dye -/
theorem swp_2 {a b v : Int} : swp a b (swp a b v) = v := by
  unfold swp
  by_cases q : v = a
  · rw [if_pos q]
    by_cases r : b = a
    · rw [if_pos r]
      omega
    · rw [if_neg r, if_pos rfl]
      omega
  · rw [if_neg q]
    by_cases r : v = b
    · rw [if_pos r, if_pos rfl]
      omega
    · rw [if_neg r, if_neg q, if_neg r]
theorem T_exch {m M : mMem} {f s : Int → Int} {a b : Int} (h : TrC m M f s) (ha : 0 ≤ a ∧ a ≤ 4) (hb : 0 ≤ b ∧ b ≤ 4) : TrC (exM m 9 a b 36) M (fun i => swp a b (f i)) s := by
  obtain ⟨c, h1, h2, h3, h4, h5, h6, h7⟩ := h
  have cc := exM_cht c ha hb 36 (by decide)
  have e : ∀ k : Nat, k ≠ 10 → k ≠ 15 → k ≠ 16 → exM m 9 a b 36 k = m k := fun k x y z => exM_ne m 9 a b x y z 36
  have e1 : ∀ i : Int, 0 ≤ i → i < 36 → exM m 9 a b 36 10 i = swp a b (f i) := fun i x y => by
    have g := exM_cel m 9 a b 36 i
    rw [if_pos ⟨x, by omega⟩] at g
    rw [← h1 i x y]
    exact g
  unfold TrC
  rw [e 11 (by decide) (by decide) (by decide), e 12 (by decide) (by decide) (by decide), e 13 (by decide) (by decide) (by decide), e 14 (by decide) (by decide) (by decide), e 9 (by decide) (by decide) (by decide)]
  exact ⟨cc, e1, h2, h3, h4, h5, h6, h7⟩
theorem P_dye {M : mMem} (h : Inv M) (x : Int) : PairI 68 164 [vi x] M := by
  have hc := h.1
  have hp := Pg0_of h.2.1
  have n5 : 0 ≤ M 1 5 ∧ M 1 5 ≤ 5 := hc.2.1
  obtain ⟨k, hk⟩ : ∃ k : Nat, M 1 5 = k := ⟨(M 1 5).toNat, by omega⟩
  have k5 : k ≤ 5 := by omega
  by_cases c : x = 0 ∨ x = 1
  · refine ask_pair (V := tld (off (off (off (-4, woS (M 4) (M 2) k) 12 (woS (M 4) (fun i => swp 1 2 (M 2 i)) k)) 13 (woS (M 4) (fun i => swp 1 3 (M 2 i)) k)) 23 (woS (M 4) (fun i => swp 2 3 (M 2 i)) k)) x) h ?_ (fun m hm => ?_)
    · refine mI3_i ⟨by decide, Nat.le_of_ble_eq_true rfl⟩ (fun K hK => ?_)
      have step : ∀ (a b : Int) (st : Int × Int), 1 ≤ a → a ≤ 3 → 1 ≤ b → b ≤ 3 → (∀ m2, TrC m2 M (M 2) (M 3) → ChC m2 (off st (10 * a + b) (woS (M 4) (fun i => swp a b (M 2 i)) k)) → FrL m2 M → K 45 [(0, vr 0), (1, vi x), (2, vi a), (3, vi (b + 1))] [] (S0, m2)) → ∀ m', TrC m' M (M 2) (M 3) → ChC m' st → FrL m' M → K 45 [(0, vr 0), (1, vi x), (2, vi a), (3, vi b)] [] (S0, m') := by
        intro a b st a1 a3 b1 b3 fin m' h0 h1 h2
        have t1 := T_exch h0 (a := a) (b := b) (by omega) (by omega)
        have u1 : ∀ k : Nat, k ≠ 10 → k ≠ 15 → k ≠ 16 → exM m' 9 a b 36 k = m' k := fun k x y z => exM_ne m' 9 a b x y z 36
        have c1 : ChC (exM m' 9 a b 36) st := by
          unfold ChC
          rw [u1 37 (by decide) (by decide) (by decide)]
          exact h1
        have w1 : w32 (w32 (10 * a) + b) = 10 * a + b := by rw [w32_s (z := 10 * a) (by omega) (by omega), w32_s (by omega) (by omega)]
        refine q_L_dye_45 hK _ _ _ m' (br_f (by omega) ⟨_, R_exchange 6 m' 9 (by omega) a b (by omega) (by omega) h0.1, _, _, T_worth 6 t1 hk k5, ?_⟩)
        rw [w1, w32_s (z := b + 1) (by omega) (by omega)]
        refine cN (C_offer 8 c1 _ _) (fun m2 p => ?_)
        obtain ⟨p1, p2⟩ := p
        have t2 : TrC m2 M (fun i => swp a b (M 2 i)) (M 3) := T_eq t1 (fun k a b => p2 k (by omega)) (by rw [p2 9 (by decide)]) (by rw [p2 9 (by decide)])
        have t3 := T_cong (T_exch t2 (a := a) (b := b) (by omega) (by omega)) (fun z _ _ => swp_2 (v := M 2 z))
        have u2 : ∀ k : Nat, k ≠ 10 → k ≠ 15 → k ≠ 16 → exM m2 9 a b 36 k = m2 k := fun k x y z => exM_ne m2 9 a b x y z 36
        refine ⟨_, R_exchange 6 m2 9 (by omega) a b (by omega) (by omega) t2.1, fin _ t3 ?_ (FrL_row (FrL_row (FrL_row h2 (fun k a _ _ _ _ _ => u1 k (by omega) (by omega) (by omega))) (fun k _ a _ _ _ _ => p2 k a)) (fun k a _ _ _ _ _ => u2 k (by omega) (by omega) (by omega)))⟩
        unfold ChC
        rw [u2 37 (by decide) (by decide) (by decide)]
        exact p1
      have t0 := T_copy (m := M) hc (fun _ _ _ => rfl)
      refine q_L_dye_0 hK x M ⟨_, _, R_isPart 8 M x, br_t (b2_n0.mpr c) ⟨_, R_copyFrom 8 M 9 1 (by unfold cpP; omega), _, _, T_worth 6 t0 hk k5, cN (C_begin 8 _ _) (fun m2 p => ?_)⟩⟩
      refine q_L_dye_36 hK x 1 m2 (br_f (by decide) ?_)
      refine step 1 2 _ (by decide) (by decide) (by decide) (by decide) (fun m3 g0 g1 g2 => ?_) m2 (T_eq t0 (fun k a b => p.2 k (by omega)) (by rw [p.2 9 (by decide)]) (by rw [p.2 9 (by decide)])) p.1 (FrL_row (FrL_row (FrL_refl M) (fun k a _ _ _ _ _ => cpy_ne M (by omega))) (fun k _ a _ _ _ _ => p.2 k a))
      refine step 1 3 _ (by decide) (by decide) (by decide) (by decide) (fun m4 g0 g1 g2 => ?_) m3 g0 g1 g2
      refine q_L_dye_45 hK x 1 _ m4 (br_t (by decide) (q_L_dye_36 hK x 2 m4 (br_f (by decide) ?_)))
      refine step 2 3 _ (by decide) (by decide) (by decide) (by decide) (fun m5 g0 g1 g2 => ?_) m4 g0 g1 g2
      exact q_L_dye_45 hK x 2 _ m5 (br_t (by decide) (q_L_dye_36 hK x 3 m5 (br_t (by decide) ⟨_, _, C_told 8 g1 x, rI_i ⟨rfl, g2⟩⟩)))
    · refine mI3_i ⟨by decide, Nat.le_of_ble_eq_true rfl⟩ (fun K hK => ?_)
      have m54 := (FrL_lo hm).2
      have inner : ∀ (w a b : Int) (v17 : Int), (∀ m', PgC m' M 340 (fun z => swp a b (M 2 z)) (M 3) → m' 53 17 = v17 → FrM m' m → K 53 [(0, vr 53), (1, vi x), (2, vi w), (3, vi a), (4, vi b), (5, vi 36)] [] (S0, m')) → ∀ (j i : Nat), i + j = 36 → ∀ m', PgC m' M 340 (fun z => if z < (i : Int) then swp a b (M 2 z) else M 2 z) (M 3) → m' 53 17 = v17 → FrM m' m → K 53 [(0, vr 53), (1, vi x), (2, vi w), (3, vi a), (4, vi b), (5, vi (i : Int))] [] (S0, m') := by
        intro w a b v17 fin j
        induction j with
        | zero =>
          intro i hi m' h1 h2 h3
          rw [show i = 36 by omega] at h1 ⊢
          refine fin m' (G_cong h1 (fun z q r => ?_)) h2 h3
          show (if z < 36 then swp a b (M 2 z) else M 2 z) = swp a b (M 2 z)
          rw [if_pos (by omega)]
        | succ j ih =>
          intro i hi m' h1 h2 h3
          have h4 := ih (i + 1) (by omega)
          have hz : ∃ z : Int, z = (i : Int) := ⟨_, rfl⟩
          obtain ⟨z, hz⟩ := hz
          have ez : ((i + 1 : Nat) : Int) = z + 1 := by omega
          rw [ez] at h4
          rw [← hz] at h1
          rw [← hz]
          have zb : 0 ≤ z ∧ z < 36 := by omega
          clear hz ez hi
          have ew : w32 (z + 1) = z + 1 := w32_s (by omega) (by omega)
          have i2 : w32 (340 + z) = 340 + z := w32_s (by omega) (by omega)
          have pv : m' 54 z = M 2 z := by rw [h3.2.2.2.2.2 _ (by omega) (by omega), m54, hp.1 _ (by omega) (by omega)]
          have go : ∀ u, u = swp a b (M 2 z) → K 53 [(0, vr 53), (1, vi x), (2, vi w), (3, vi a), (4, vi b), (5, vi (z + 1))] [] (S0, mupd m' 54 (340 + z) u) := by
            intro u hu
            refine h4 _ (G_cong (G_set h1 hc zb) (fun q r t => ?_)) (by rw [mupd_ne _ _ _ (by decide)]; exact h2) (FrM_set h3 (by omega))
            unfold fup
            show (if q = z then u else if q < z then swp a b (M 2 q) else M 2 q) = if q < z + 1 then swp a b (M 2 q) else M 2 q
            by_cases y : q = z
            · rw [if_pos y, if_pos (by omega), y, hu]
            · rw [if_neg y]
              by_cases y2 : q < z
              · rw [if_pos y2, if_pos (by omega)]
              · rw [if_neg y2, if_neg (by omega)]
          refine q_M_dye_53 hK _ _ _ _ _ m' (br_f (by omega) ?_)
          rw [ew, i2, pv]
          refine mIn_i (by omega) (by omega) ⟨fun q => mIn_i (by omega) (by omega) ⟨fun q2 => mIn_i (by omega) (by omega) (mIn_i (by omega) (by omega) (go _ ?_)), fun q2 => mIn_i (by omega) (by omega) (go _ ?_)⟩, fun q => mIn_i (by omega) (by omega) (go _ ?_)⟩
          · unfold swp
            rw [if_neg q, if_neg q2]
          · unfold swp
            rw [if_neg q, if_pos (Decidable.not_not.mp q2)]
          · unfold swp
            rw [if_pos (Decidable.not_not.mp q)]
      have step : ∀ (a b : Int) (st : Int × Int), 1 ≤ a → a ≤ 3 → 1 ≤ b → b ≤ 3 → (∀ m2 w, WhM m2 w (off st (10 * a + b) (woS (M 4) (fun i => swp a b (M 2 i)) k)) → FrM m2 m → K 36 [(0, vr 53), (1, vi x), (2, vi w), (3, vi a), (4, vi (b + 1))] [] (S0, m2)) → ∀ m' w, WhM m' w st → FrM m' m → K 36 [(0, vr 53), (1, vi x), (2, vi w), (3, vi a), (4, vi b)] [] (S0, m') := by
        intro a b st a1 a3 b1 b3 fin m' w h1 h2
        have w1 : w32 (w32 (10 * a) + b) = 10 * a + b := by rw [w32_s (z := 10 * a) (by omega) (by omega), w32_s (by omega) (by omega)]
        have ew : w32 (b + 1) = b + 1 := w32_s (by omega) (by omega)
        refine q_M_dye_36 hK _ _ _ _ m' (br_f (by omega) ⟨_, R_copies 8 m' 0 340 (by omega) (by omega) (by omega), ?_⟩)
        have g := G_copy (m := m') (p := 340) h.2.1 hc (fun a q0 q1 => by rw [h2.2.2.2.2.2 a q0 (by omega), m54])
        refine inner w a b (m' 53 17) (fun m1 p1 p7 p4 => ?_) 36 0 (by omega) _ (G_cong g (fun z q r => ?_)) (by rw [mcpy_ne _ _ _ _ _ (by decide)]) (FrM_cpy h2 (by decide))
        · refine q_M_dye_53 hK _ _ _ _ _ m1 (br_t (by decide) ⟨_, _, G_worth 6 p1 (by omega) hc hk k5, cI (G_more 8 m1 _) (fun v m2 p => ?_)⟩)
          obtain ⟨v1, v2, _, v4⟩ := p
          have c1 : WhM m1 w st := ⟨h1.1, by rw [p7, h1.2]⟩
          have c2 := W_more (code := 10 * a + b) c1 v1 v2
          have h3 := fin m2 _ c2 (FrM_trans v4 p4)
          rw [ew, w1]
          refine ⟨fun q => ?_, fun q => ?_⟩
          · rw [if_pos q] at h3
            exact h3
          · rw [if_neg q] at h3
            exact h3
        · show M 2 z = if z < 0 then swp a b (M 2 z) else M 2 z
          rw [if_neg (by omega)]
      refine q_M_dye_0 hK x m ⟨_, _, R_in 8 _ _ _ _, br_t (b2_n0.mpr (by omega)) ⟨_, _, G_worth 6 (G_0 h.2.1 hc (fun a q0 q1 => by rw [m54])) (by omega) hc hk k5, ?_⟩⟩
      refine q_M_dye_26 hK x _ 1 _ (br_f (by decide) ?_)
      refine step 1 2 (-4, woS (M 4) (M 2) k) (by decide) (by decide) (by decide) (by decide) (fun m3 w g1 g2 => ?_) _ _ ⟨rfl, by rw [mupd_at, fup_at]⟩ (FrM_53 (FrM_refl m) (by decide) (by decide) (by decide) (by decide))
      refine step 1 3 _ (by decide) (by decide) (by decide) (by decide) (fun m4 w g1 g2 => ?_) m3 w g1 g2
      refine q_M_dye_36 hK x _ 1 _ m4 (br_t (by decide) (q_M_dye_26 hK x _ 2 m4 (br_f (by decide) ?_)))
      refine step 2 3 _ (by decide) (by decide) (by decide) (by decide) (fun m5 w g1 g2 => ?_) m4 w g1 g2
      refine q_M_dye_36 hK x _ 2 _ m5 (br_t (by decide) (q_M_dye_26 hK x _ 3 m5 (br_f (by decide) (q_M_dye_36 hK x _ 3 _ m5 (br_t (by decide) (q_M_dye_26 hK x _ 4 m5 (br_t (by decide) ?_)))))))
      have t := W_told g1 x
      refine ⟨fun q => rI_i ⟨?_, g2⟩, fun q => ⟨fun q2 => rI_i ⟨?_, g2⟩, fun q2 => rI_i ⟨?_, g2⟩⟩⟩
      · exact Eq.trans (by rw [if_pos q]) t
      · exact Eq.trans (by rw [if_neg q, if_pos q2]) t
      · exact Eq.trans (by rw [if_neg q, if_neg q2]) t
  · exact ⟨-1, M, M, ⟨⟨by decide, Nat.le_of_ble_eq_true rfl⟩, fun K hK => q_L_dye_0 hK x M ⟨_, _, R_isPart 8 M x, br_f (fun q => c (b2_n0.mp q)) (mret_i rfl rfl)⟩⟩, ⟨⟨by decide, Nat.le_of_ble_eq_true rfl⟩, fun K hK => q_M_dye_0 hK x M ⟨_, _, R_in 8 _ _ _ _, br_f (fun q => c (by have q := b2_n0.mp q; omega)) (mret_i rfl rfl)⟩⟩, h⟩
end
section
/-! PURE PROOFS 39: loose -/
def loS (M : mMem) (l : Int) : Nat → Int × Int
  | 0 => (-4, -(rdL (M 4) (M 2) l))
  | i + 1 => if 1 ≤ M 2 (i : Nat) ∧ M 2 (i : Nat) ≤ 3 then off (loS M l i) (10 * ((i : Nat) / 6) + (i : Nat) % 6) (-(rdL (M 4) (fup (M 2) (i : Nat) 0) l)) else loS M l i
theorem loS_s (M : mMem) (l : Int) (i : Nat) : loS M l (i + 1) = if 1 ≤ M 2 (i : Nat) ∧ M 2 (i : Nat) ≤ 3 then off (loS M l i) (10 * ((i : Nat) / 6) + (i : Nat) % 6) (-(rdL (M 4) (fup (M 2) (i : Nat) 0) l)) else loS M l i := rfl
theorem loS_rng (M : mMem) (l : Int) : ∀ i : Nat, -60 ≤ (loS M l i).2 ∧ (loS M l i).2 ≤ 0
  | 0 => by
    have h := rdL_rng (M 4) (M 2) l
    show -60 ≤ -(rdL (M 4) (M 2) l) ∧ -(rdL (M 4) (M 2) l) ≤ 0
    omega
  | i + 1 => by
    have h1 := loS_rng M l i
    have h := rdL_rng (M 4) (fup (M 2) (i : Nat) 0) l
    rw [loS_s]
    unfold off
    split
    · split
      · exact h1
      · show -60 ≤ -(rdL (M 4) (fup (M 2) (i : Nat) 0) l) ∧ -(rdL (M 4) (fup (M 2) (i : Nat) 0) l) ≤ 0
        omega
    · exact h1
theorem P_loose {M : mMem} (h : Inv M) (l x : Int) : PairI 67 163 [vi l, vi x] M := by
  have hc := h.1
  have hp := Pg0_of h.2.1
  have n5 : 0 ≤ M 1 5 ∧ M 1 5 ≤ 5 := hc.2.1
  have p3 : M 54 39 = M 1 5 := hp.2.2.1
  have cel : ∀ i : Int, 0 ≤ i → i < 36 → 0 ≤ M 2 i ∧ M 2 i ≤ 4 := hc.1.1
  by_cases c : (0 ≤ l ∧ l < M 1 5) ∧ (x = 0 ∨ x = 1)
  · refine ask_pair (V := if (loS M l 36).1 = -4 then (loS M l 36).1 else if x ≠ 0 then -(loS M l 36).2 else (loS M l 36).1) h ?_ (fun m hm => ?_)
    · refine mI3_i ⟨by decide, Nat.le_of_ble_eq_true rfl⟩ (fun K hK => ?_)
      have loop : ∀ (j i : Nat), i + j = 36 → ∀ m' : mMem, TrC m' M (M 2) (M 3) → ChC m' (loS M l i) → FrL m' M → K 46 [(0, vr 0), (1, vi l), (2, vi x), (3, vi (i : Int))] [] (S0, m') := by
        intro j
        induction j with
        | zero =>
          intro i hi m' h0 h1 h2
          rw [show i = 36 by omega] at h1 ⊢
          have r := loS_rng M l 36
          refine q_L_loose_46 hK _ _ _ m' (br_t (by decide) ?_)
          rw [h1.1, h1.2]
          refine ⟨fun q => rI_i ⟨?_, h2⟩, fun q => ⟨fun q2 => rI_i ⟨?_, h2⟩, fun q2 => rI_i ⟨?_, h2⟩⟩⟩
          · rw [if_pos q]
          · rw [if_neg q, if_pos q2]
            exact w32_s (by omega) (by omega)
          · rw [if_neg q, if_neg q2]
        | succ j ih =>
          intro i hi m' h0 h1 h2
          have h4 := ih (i + 1) (by omega)
          rw [loS_s] at h4
          generalize loS M l i = st at h1 h4
          have hz : ∃ z : Int, z = (i : Int) := ⟨_, rfl⟩
          obtain ⟨z, hz⟩ := hz
          have ez : ((i + 1 : Nat) : Int) = z + 1 := by omega
          rw [ez, ← hz] at h4
          rw [← hz]
          have zb : 0 ≤ z ∧ z < 36 := by omega
          clear hz ez hi ih
          have ew : w32 (z + 1) = z + 1 := w32_s (by omega) (by omega)
          have cz := cel z zb.1 zb.2
          have mz : m' 10 z = M 2 z := h0.2.1 z zb.1 zb.2
          have cd : w32 (w32 (10 * jdiv z 6) + jrem z 6) = 10 * (z / 6) + z % 6 := by
            rw [jdiv_nn zb.1 (by omega) (by omega), jrem_nn zb.1, w32_s (z := 10 * (z / 6)) (by omega) (by omega), w32_s (by omega) (by omega)]
          refine q_L_loose_46 hK _ _ _ m' (br_f (by omega) ?_)
          rw [ew, mz, cd]
          refine mIn_i (by omega) (by omega) ⟨_, _, R_isColour 8 m' _, fun q => ?_, fun q => ?_⟩
          · rw [if_neg (b2_0.mp q)] at h4
            exact h4 m' h0 h1 h2
          · have q := b2_n0.mp q
            rw [if_pos q] at h4
            have t1 := T_put h0 zb (v := 0) (by omega)
            have u1 : ∀ k : Nat, k ≠ 10 → k ≠ 15 → k ≠ 16 → putM m' 9 z 0 k = m' k := fun k a b c => put_ne _ _ _ _ a b c
            have c1 : ChC (putM m' 9 z 0) st := by
              unfold ChC
              rw [u1 37 (by decide) (by decide) (by decide)]
              exact h1
            have rr := rdL_rng (M 4) (fup (M 2) z 0) l
            refine ⟨_, R_put 7 m' 9 (by omega) z 0 zb (by omega) h0.1.1.1, _, _, T_reads 7 t1 c.1, ?_⟩
            rw [w32_s (z := -(rdL (M 4) (fup (M 2) z 0) l)) (by omega) (by omega)]
            refine cN (C_offer 8 c1 _ _) (fun m2 p => ?_)
            obtain ⟨p1, p2⟩ := p
            have t2 : TrC m2 M (fup (M 2) z 0) (M 3) := T_eq t1 (fun k a b => p2 k (by omega)) (by rw [p2 9 (by decide)]) (by rw [p2 9 (by decide)])
            have t3 : TrC (putM m2 9 z (M 2 z)) M (M 2) (M 3) := T_cong (T_put t2 zb (v := M 2 z) cz) (fun y _ _ => by
              unfold fup
              split
              · rename_i e
                rw [e]
              · rfl)
            have u2 : ∀ k : Nat, k ≠ 10 → k ≠ 15 → k ≠ 16 → putM m2 9 z (M 2 z) k = m2 k := fun k a b c => put_ne _ _ _ _ a b c
            refine ⟨_, R_put 7 m2 9 (by omega) z (M 2 z) zb cz t2.1.1.1, h4 _ t3 ?_ (FrL_row (FrL_row (FrL_row h2 (fun k a _ _ _ _ _ => u1 k (by omega) (by omega) (by omega))) (fun k _ a _ _ _ _ => p2 k a)) (fun k a _ _ _ _ _ => u2 k (by omega) (by omega) (by omega)))⟩
            unfold ChC
            rw [u2 37 (by decide) (by decide) (by decide)]
            exact p1
      have t0 := T_copy (m := M) hc (fun _ _ _ => rfl)
      have rr := rdL_rng (M 4) (M 2) l
      refine q_L_loose_0 hK l x M ⟨_, _, R_isLaw 8 M l, br_f (fun q => b2_0.mp q c.1) ⟨_, _, R_isPart 8 M x, br_t (b2_n0.mpr c.2) ⟨_, R_copyFrom 8 M 9 1 (by unfold cpP; omega), _, _, T_reads 7 t0 c.1, ?_⟩⟩⟩
      rw [w32_s (z := -(rdL (M 4) (M 2) l)) (by omega) (by omega)]
      refine cN (C_begin 8 _ _) (fun m2 p => ?_)
      exact loop 36 0 (by omega) m2 (T_eq t0 (fun k a b => p.2 k (by omega)) (by rw [p.2 9 (by decide)]) (by rw [p.2 9 (by decide)])) p.1 (FrL_row (FrL_row (FrL_refl M) (fun k a _ _ _ _ _ => cpy_ne M (by omega))) (fun k _ a _ _ _ _ => p.2 k a))
    · refine mI3_i ⟨by decide, Nat.le_of_ble_eq_true rfl⟩ (fun K hK => ?_)
      have m54 := (FrL_lo hm).2
      have m39 : m 54 39 = M 1 5 := by rw [m54, p3]
      have loop : ∀ (j i : Nat), i + j = 36 → ∀ (m' : mMem) (st : Int × Int), st = loS M l i → FrM m' m → K 35 [(0, vr 53), (1, vi l), (2, vi x), (3, vi (-st.2)), (4, vi st.1), (5, vi (i : Int))] [] (S0, m') := by
        intro j
        induction j with
        | zero =>
          intro i hi m' st h1 h2
          rw [show i = 36 by omega] at h1 ⊢
          refine q_M_loose_35 hK _ _ _ _ _ m' (br_t (by decide) ⟨fun q => rI_i ⟨?_, h2⟩, fun q => ⟨fun q2 => rI_i ⟨?_, h2⟩, fun q2 => rI_i ⟨?_, h2⟩⟩⟩)
          · rw [← h1, if_pos q]
          · rw [← h1, if_neg q, if_pos q2]
          · rw [← h1, if_neg q, if_neg q2]
        | succ j ih =>
          intro i hi m' st h1 h2
          have h4 := ih (i + 1) (by omega)
          rw [loS_s, ← h1] at h4
          have hz : ∃ z : Int, z = (i : Int) := ⟨_, rfl⟩
          obtain ⟨z, hz⟩ := hz
          have ez : ((i + 1 : Nat) : Int) = z + 1 := by omega
          rw [ez, ← hz] at h4
          rw [← hz]
          have zb : 0 ≤ z ∧ z < 36 := by omega
          clear hz ez hi ih h1
          have ew : w32 (z + 1) = z + 1 := w32_s (by omega) (by omega)
          have cz := cel z zb.1 zb.2
          have pg : ∀ y : Int, 0 ≤ y → y < 85 → m' 54 y = M 54 y := fun y a b => by rw [h2.2.2.2.2.2 y a (by omega), m54]
          have mz : m' 54 z = M 2 z := by rw [pg z zb.1 (by omega), hp.1 z zb.1 zb.2]
          have cd : w32 (w32 (10 * jdiv z 6) + jrem z 6) = 10 * (z / 6) + z % 6 := by
            rw [jdiv_nn zb.1 (by omega) (by omega), jrem_nn zb.1, w32_s (z := 10 * (z / 6)) (by omega) (by omega), w32_s (by omega) (by omega)]
          refine q_M_loose_35 hK _ _ _ _ _ m' (br_f (by omega) ?_)
          rw [ew, mz, cd]
          refine mIn_i (by omega) (by omega) ⟨_, _, R_mIsColour 7 m' _, fun q => ?_, fun q => ?_⟩
          · rw [if_neg (b2_0.mp q)] at h4
            exact h4 m' st rfl h2
          · have q := b2_n0.mp q
            rw [if_pos q] at h4
            have g := G_set (v := 0) (G_0 (m := m') h.2.1 hc pg) hc zb
            rw [Int.zero_add] at g
            have fr : FrM (mupd (mupd m' 54 z 0) 54 z (M 2 z)) m := FrM_54 h2 (fun k a => by rw [mupd_ne _ _ _ a, mupd_ne _ _ _ a]) (fun y a b => by
              rw [mupd_at, mupd_at]
              unfold fup
              split
              · rename_i e
                rw [e, mz]
              · rfl)
            refine mIn_i (by omega) (by omega) ⟨_, _, G_reads 7 g (by omega) hc c.1, mIn_i (by omega) (by omega) ?_⟩
            generalize rdL (M 4) (fup (M 2) z 0) l = r at h4
            unfold off at h4
            refine ⟨fun q2 => q_M_loose_110 hK _ _ _ _ _ _ _ ?_, fun q2 => q_M_loose_110 hK _ _ _ _ _ _ _ ?_⟩
            · rw [ew]
              refine br_t q2 ?_
              rw [if_pos (by omega)] at h4
              exact h4 _ st rfl fr
            · rw [ew]
              refine br_f q2 ?_
              rw [if_neg (by omega)] at h4
              have h5 := h4 _ _ rfl fr
              rw [show -(10 * (z / 6) + z % 6, -r).2 = r from Int.neg_neg r] at h5
              exact h5
      have g := G_reads 7 (G_0 (m := m) h.2.1 hc (fun a q0 q1 => by rw [m54])) (by omega) hc c.1
      have l0 := loop 36 0 (by omega) m _ rfl (FrM_refl m)
      have l1 : K 35 [(0, vr 53), (1, vi l), (2, vi x), (3, vi (- -(rdL (M 4) (M 2) l))), (4, vi (-4)), (5, vi 0)] [] (S0, m) := l0
      rw [Int.neg_neg] at l1
      exact q_M_loose_0 hK l x m ⟨_, _, R_mIsLaw 7 m l (by rw [m39]; exact n5), br_f (fun q => b2_0.mp q (by rw [m39]; exact c.1)) ⟨_, _, R_in 8 _ _ _ _, br_t (b2_n0.mpr (by omega)) ⟨_, _, g, l1⟩⟩⟩
  · refine ⟨-1, M, M, ⟨⟨by decide, Nat.le_of_ble_eq_true rfl⟩, fun K hK => q_L_loose_0 hK l x M ⟨_, _, R_isLaw 8 M l, ⟨fun _ => mret_i rfl rfl, fun q => ⟨_, _, R_isPart 8 M x, br_f (fun q2 => c ⟨b2_n0.mp q, b2_n0.mp q2⟩) (mret_i rfl rfl)⟩⟩⟩⟩, ⟨⟨by decide, Nat.le_of_ble_eq_true rfl⟩, fun K hK => q_M_loose_0 hK l x M ⟨_, _, R_mIsLaw 7 M l (by rw [p3]; exact n5), ⟨fun _ => mret_i rfl rfl, fun q => ⟨_, _, R_in 8 _ _ _ _, br_f (fun q2 => ?_) (mret_i rfl rfl)⟩⟩⟩⟩, h⟩
    have q := b2_n0.mp q
    have q2 := b2_n0.mp q2
    rw [p3] at q
    exact c ⟨q, by omega⟩
end
section
/-! PURE PROOFS 40: best -/
def be1 (M : mMem) (k : Nat) (a : Int) (st : Int × Int) (c : Int) : Int × Int := if M 2 a = 0 ∧ 0 < M 3 c then off st (100 * (a / 6) + 10 * (a % 6) + c) (woS (M 4) (fup (M 2) a c) k) else st
def beA (M : mMem) (k : Nat) : Nat → Int × Int
  | 0 => (-4, woS (M 4) (M 2) k)
  | a + 1 => be1 M k (a : Nat) (be1 M k (a : Nat) (be1 M k (a : Nat) (beA M k a) 1) 2) 3
theorem beA_s (M : mMem) (k a : Nat) : beA M k (a + 1) = be1 M k (a : Nat) (be1 M k (a : Nat) (be1 M k (a : Nat) (beA M k a) 1) 2) 3 := rfl
def beV (q : Int) : Prop := q / 100 < 6 ∧ q / 10 % 10 < 6 ∧ 1 ≤ q % 10 ∧ q % 10 ≤ 3
def beG (M : mMem) (k : Nat) : Nat → Int × Int
  | 0 => (-4, woS (M 4) (M 2) k)
  | q + 1 => if ((q : Nat) : Int) / 100 < 6 ∧ ((q : Nat) : Int) / 10 % 10 < 6 ∧ 1 ≤ ((q : Nat) : Int) % 10 ∧ ((q : Nat) : Int) % 10 ≤ 3 then be1 M k (6 * (((q : Nat) : Int) / 100) + ((q : Nat) : Int) / 10 % 10) (beG M k q) (((q : Nat) : Int) % 10) else beG M k q
theorem beG_s (M : mMem) (k q : Nat) : beG M k (q + 1) = if ((q : Nat) : Int) / 100 < 6 ∧ ((q : Nat) : Int) / 10 % 10 < 6 ∧ 1 ≤ ((q : Nat) : Int) % 10 ∧ ((q : Nat) : Int) % 10 ≤ 3 then be1 M k (6 * (((q : Nat) : Int) / 100) + ((q : Nat) : Int) / 10 % 10) (beG M k q) (((q : Nat) : Int) % 10) else beG M k q := rfl
theorem beG_i (M : mMem) (k : Nat) {q : Nat} (h : ¬ (((q : Nat) : Int) / 100 < 6 ∧ ((q : Nat) : Int) / 10 % 10 < 6 ∧ 1 ≤ ((q : Nat) : Int) % 10 ∧ ((q : Nat) : Int) % 10 ≤ 3)) : beG M k (q + 1) = beG M k q := if_neg h
theorem beG_v (M : mMem) (k : Nat) {q x y : Nat} {c : Int} (h : (q : Int) = 100 * x + 10 * y + c) (hx : x < 6) (hy : y < 6) (hc : 1 ≤ c ∧ c ≤ 3) : beG M k (q + 1) = be1 M k ((6 * x + y : Nat) : Int) (beG M k q) c := by
  rw [beG_s, if_pos (by omega)]
  have e1 : 6 * (((q : Nat) : Int) / 100) + ((q : Nat) : Int) / 10 % 10 = ((6 * x + y : Nat) : Int) := by omega
  have e2 : ((q : Nat) : Int) % 10 = c := by omega
  rw [e1, e2]
theorem beG_10 (M : mMem) (k : Nat) {n x y : Nat} (h : n = 100 * x + 10 * y) (hx : x < 6) (hy : y < 6) : beG M k (n + 10) = be1 M k ((6 * x + y : Nat) : Int) (be1 M k ((6 * x + y : Nat) : Int) (be1 M k ((6 * x + y : Nat) : Int) (beG M k n) 1) 2) 3 := by
  rw [beG_i M k (q := n + 9) (by omega), beG_i M k (q := n + 8) (by omega), beG_i M k (q := n + 7) (by omega), beG_i M k (q := n + 6) (by omega), beG_i M k (q := n + 5) (by omega), beG_i M k (q := n + 4) (by omega), beG_v M k (q := n + 3) (x := x) (y := y) (c := 3) (by omega) hx hy (by omega), beG_v M k (q := n + 2) (x := x) (y := y) (c := 2) (by omega) hx hy (by omega), beG_v M k (q := n + 1) (x := x) (y := y) (c := 1) (by omega) hx hy (by omega), beG_i M k (q := n) (by omega)]
theorem beG_40 (M : mMem) (k x : Nat) : ∀ j : Nat, j ≤ 40 → beG M k (100 * x + 60 + j) = beG M k (100 * x + 60)
  | 0, _ => rfl
  | j + 1, h => by
    have e := beG_i M k (q := 100 * x + 60 + j) (by omega)
    exact e.trans (beG_40 M k x j (by omega))
theorem beG_y (M : mMem) (k x : Nat) (hx : x < 6) (h : beG M k (100 * x) = beA M k (6 * x)) : ∀ y : Nat, y ≤ 6 → beG M k (100 * x + 10 * y) = beA M k (6 * x + y)
  | 0, _ => h
  | y + 1, q => by
    have e := beG_10 M k (n := 100 * x + 10 * y) (x := x) (y := y) rfl hx (by omega)
    rw [beG_y M k x hx h y (by omega), ← beA_s] at e
    exact e
theorem beG_x (M : mMem) (k : Nat) : ∀ x : Nat, x ≤ 6 → beG M k (100 * x) = beA M k (6 * x)
  | 0, _ => rfl
  | x + 1, q => by
    have e := beG_y M k x (by omega) (beG_x M k x (by omega)) 6 (by omega)
    have f := beG_40 M k x 40 (by omega)
    exact f.trans e
theorem G_by (d : Nat) {m M : mMem} {p : Int} {f s : Int → Int} (h : PgC m M p f s) (hp : 0 ≤ p ∧ p ≤ 425) (q : Int) (hq : 0 ≤ q ∧ q < 600) : mR3 (d + 3) 159 [vr 53, vi p, vi q] (S0, m) (some (vi (b2 ((q / 10 % 10 < 6 ∧ 1 ≤ q % 10 ∧ q % 10 ≤ 3) ∧ f (6 * (q / 100) + q / 10 % 10) = 0 ∧ 0 < s (q % 10)))), (S0, if (q / 10 % 10 < 6 ∧ 1 ≤ q % 10 ∧ q % 10 ≤ 3) ∧ f (6 * (q / 100) + q / 10 % 10) = 0 ∧ 0 < s (q % 10) then stM m p (6 * (q / 100) + q / 10 % 10) (q % 10) else m)) := by
  refine ⟨⟨by decide, Nat.le_of_ble_eq_true rfl⟩, fun K hK => q_M_stitchesBy_0 hK p q m ?_⟩
  have j1 : jdiv q 100 = q / 100 := jdiv_nn hq.1 (by omega) (by omega)
  have j2 : jrem (jdiv q 10) 10 = q / 10 % 10 := by rw [jdiv_nn hq.1 (by omega) (by omega), jrem_nn (by omega)]
  have j3 : jrem q 10 = q % 10 := jrem_nn hq.1
  have x6 : 0 ≤ q / 100 ∧ q / 100 < 6 := by omega
  have y9 : 0 ≤ q / 10 % 10 ∧ q / 10 % 10 < 10 := by omega
  rw [j1, j2, j3]
  generalize q / 100 = x at x6 ⊢
  generalize q / 10 % 10 = y at y9 ⊢
  generalize q % 10 = c
  refine ⟨_, _, R_mIsCell d m x y, fun z => mret_i (b2_f ?_).symm (if_neg ?_).symm, fun z => ⟨_, _, R_mIsColour d m c, fun z2 => mret_i (b2_f ?_).symm (if_neg ?_).symm, fun z2 => ?_⟩⟩
  · have z := b2_0.mp z
    omega
  · have z := b2_0.mp z
    omega
  · have z2 := b2_0.mp z2
    omega
  · have z2 := b2_0.mp z2
    omega
  · have z := b2_n0.mp z
    have z2 := b2_n0.mp z2
    have w : w32 (w32 (6 * x) + y) = 6 * x + y := by rw [w32_s (z := 6 * x) (by omega) (by omega), w32_s (by omega) (by omega)]
    rw [w]
    have g := G_stitch (d + 1) h hp (t := 6 * x + y) (c := c) (by omega) z2
    refine ⟨_, _, g, fun z3 => mret_i (b2_f ?_).symm ?_, fun z3 => mret_i (b2_t ?_).symm ?_⟩
    · exact fun w => b2_0.mp z3 w.2
    · rw [if_neg (b2_0.mp z3), if_neg (fun w => b2_0.mp z3 w.2)]
    · exact ⟨by omega, b2_n0.mp z3⟩
    · rw [if_pos (b2_n0.mp z3), if_pos ⟨by omega, b2_n0.mp z3⟩]
theorem P_best {M : mMem} (h : Inv M) (x : Int) : PairI 65 160 [vi x] M := by
  have hc := h.1
  have hp := Pg0_of h.2.1
  have n5 : 0 ≤ M 1 5 ∧ M 1 5 ≤ 5 := hc.2.1
  obtain ⟨k, hk⟩ : ∃ k : Nat, M 1 5 = k := ⟨(M 1 5).toNat, by omega⟩
  have k5 : k ≤ 5 := by omega
  by_cases c : x = 0 ∨ x = 1
  · refine ask_pair (V := tld (beA M k 36) x) h ?_ (fun m hm => ?_)
    · refine mI3_i ⟨by decide, Nat.le_of_ble_eq_true rfl⟩ (fun K hK => ?_)
      have step : ∀ (a b : Int) (st : Int × Int), 0 ≤ a → a < 36 → 1 ≤ b → b ≤ 3 → (∀ m2, TrC m2 M (M 2) (M 3) → ChC m2 (be1 M k a st b) → FrL m2 M → K 44 [(0, vr 0), (1, vi x), (2, vi a), (3, vi (b + 1))] [] (S0, m2)) → ∀ m', TrC m' M (M 2) (M 3) → ChC m' st → FrL m' M → K 44 [(0, vr 0), (1, vi x), (2, vi a), (3, vi b)] [] (S0, m') := by
        intro a b st a1 a3 b1 b3 fin m' h0 h1 h2
        refine q_L_best_44 hK _ _ _ m' (br_f (by omega) ⟨_, _, T_can 8 h0 ⟨a1, a3⟩ ⟨b1, b3⟩, ?_⟩)
        rw [w32_s (z := b + 1) (by omega) (by omega)]
        unfold be1 at fin
        refine ⟨fun q => ?_, fun q => ?_⟩
        · rw [if_neg (b2_0.mp q)] at fin
          exact fin m' h0 h1 h2
        · have q := b2_n0.mp q
          rw [if_pos q] at fin
          have t1 := T_put h0 ⟨a1, a3⟩ (v := b) (by omega)
          have u1 : ∀ k : Nat, k ≠ 10 → k ≠ 15 → k ≠ 16 → putM m' 9 a b k = m' k := fun k a b c => put_ne _ _ _ _ a b c
          have c1 : ChC (putM m' 9 a b) st := by
            unfold ChC
            rw [u1 37 (by decide) (by decide) (by decide)]
            exact h1
          refine ⟨_, R_put 7 m' 9 (by omega) a b ⟨a1, a3⟩ (by omega) h0.1.1.1, _, _, R_stitchCode 8 _ ⟨a1, a3⟩ (by omega), _, _, T_worth 6 t1 hk k5, cN (C_offer 8 c1 _ _) (fun m2 p => ?_)⟩
          obtain ⟨p1, p2⟩ := p
          have t2 : TrC m2 M (fup (M 2) a b) (M 3) := T_eq t1 (fun k a b => p2 k (by omega)) (by rw [p2 9 (by decide)]) (by rw [p2 9 (by decide)])
          have t3 : TrC (putM m2 9 a 0) M (M 2) (M 3) := T_cong (T_put t2 ⟨a1, a3⟩ (v := 0) (by omega)) (fun y _ _ => by
            unfold fup
            split
            · rename_i e
              rw [e, q.1]
            · rfl)
          have u2 : ∀ k : Nat, k ≠ 10 → k ≠ 15 → k ≠ 16 → putM m2 9 a 0 k = m2 k := fun k a b c => put_ne _ _ _ _ a b c
          refine ⟨_, R_put 7 m2 9 (by omega) a 0 ⟨a1, a3⟩ (by omega) t2.1.1.1, fin _ t3 ?_ (FrL_row (FrL_row (FrL_row h2 (fun k a _ _ _ _ _ => u1 k (by omega) (by omega) (by omega))) (fun k _ a _ _ _ _ => p2 k a)) (fun k a _ _ _ _ _ => u2 k (by omega) (by omega) (by omega)))⟩
          unfold ChC
          rw [u2 37 (by decide) (by decide) (by decide)]
          exact p1
      have loop : ∀ (j i : Nat), i + j = 36 → ∀ m' : mMem, TrC m' M (M 2) (M 3) → ChC m' (beA M k i) → FrL m' M → K 36 [(0, vr 0), (1, vi x), (2, vi (i : Int))] [] (S0, m') := by
        intro j
        induction j with
        | zero =>
          intro i hi m' h0 h1 h2
          rw [show i = 36 by omega] at h1 ⊢
          exact q_L_best_36 hK _ _ m' (br_t (by decide) ⟨_, _, C_told 8 h1 x, rI_i ⟨rfl, h2⟩⟩)
        | succ j ih =>
          intro i hi m' h0 h1 h2
          have ew : w32 ((i : Int) + 1) = ((i + 1 : Nat) : Int) := by rw [w32_s (by omega) (by omega)]; omega
          refine q_L_best_36 hK _ _ m' (br_f (by omega) ?_)
          refine step i 1 _ (by omega) (by omega) (by decide) (by decide) (fun m2 g0 g1 g2 => ?_) m' h0 h1 h2
          refine step i 2 _ (by omega) (by omega) (by decide) (by decide) (fun m3 g0 g1 g2 => ?_) m2 g0 g1 g2
          refine step i 3 _ (by omega) (by omega) (by decide) (by decide) (fun m4 g0 g1 g2 => ?_) m3 g0 g1 g2
          refine q_L_best_44 hK _ _ _ m4 (br_t (by decide) ?_)
          rw [ew]
          exact ih (i + 1) (by omega) m4 g0 g1 g2
      have t0 := T_copy (m := M) hc (fun _ _ _ => rfl)
      refine q_L_best_0 hK x M ⟨_, _, R_isPart 8 M x, br_t (b2_n0.mpr c) ⟨_, R_copyFrom 8 M 9 1 (by unfold cpP; omega), _, _, T_worth 6 t0 hk k5, cN (C_begin 8 _ _) (fun m2 p => ?_)⟩⟩
      exact loop 36 0 (by omega) m2 (T_eq t0 (fun k a b => p.2 k (by omega)) (by rw [p.2 9 (by decide)]) (by rw [p.2 9 (by decide)])) p.1 (FrL_row (FrL_row (FrL_refl M) (fun k a _ _ _ _ _ => cpy_ne M (by omega))) (fun k _ a _ _ _ _ => p.2 k a))
    · refine mI3_i ⟨by decide, Nat.le_of_ble_eq_true rfl⟩ (fun K hK => ?_)
      have m54 := (FrL_lo hm).2
      have loop : ∀ (j i : Nat), i + j = 600 → ∀ (m' : mMem) (w : Int), WhM m' w (beG M k i) → FrM m' m → K 26 [(0, vr 53), (1, vi x), (2, vi w), (3, vi (i : Int))] [] (S0, m') := by
        intro j
        induction j with
        | zero =>
          intro i hi m' w h1 h2
          rw [show i = 600 by omega, beG_x M k 6 (by decide)] at h1
          rw [show i = 600 by omega]
          have t := W_told h1 x
          refine q_M_best_26 hK _ _ _ m' (br_t (by decide) ⟨fun q => rI_i ⟨?_, h2⟩, fun q => ⟨fun q2 => rI_i ⟨?_, h2⟩, fun q2 => rI_i ⟨?_, h2⟩⟩⟩)
          · exact Eq.trans (by rw [if_pos q]) t
          · exact Eq.trans (by rw [if_neg q, if_pos q2]) t
          · exact Eq.trans (by rw [if_neg q, if_neg q2]) t
        | succ j ih =>
          intro i hi m' w h1 h2
          have h4 := ih (i + 1) (by omega)
          rw [beG_s] at h4
          generalize beG M k i = st at h1 h4
          have hz : ∃ z : Int, z = (i : Int) := ⟨_, rfl⟩
          obtain ⟨z, hz⟩ := hz
          have ez : ((i + 1 : Nat) : Int) = z + 1 := by omega
          rw [ez, ← hz] at h4
          rw [← hz]
          have zb : 0 ≤ z ∧ z < 600 := by omega
          clear hz ez hi ih
          have ew : w32 (z + 1) = z + 1 := w32_s (by omega) (by omega)
          have g := G_copy (m := m') (p := 340) h.2.1 hc (fun a q0 q1 => by rw [h2.2.2.2.2.2 a q0 (by omega), m54])
          have c53 : mcpy m' 54 0 54 340 85 53 = m' 53 := mcpy_ne _ _ _ _ _ (by decide)
          have fr := FrM_cpy (s := 0) h2 (show (255 : Int) ≤ 340 by decide)
          refine q_M_best_26 hK _ _ _ m' (br_f (by omega) ⟨_, R_copies 8 m' 0 340 (by omega) (by omega) (by omega), ?_⟩)
          generalize mcpy m' 54 0 54 340 85 = m0 at g c53 fr
          have by1 := G_by 6 g (by omega) z zb
          refine ⟨_, _, by1, ?_⟩
          rw [ew]
          have v1 : z / 100 < 6 := by omega
          have dn : 6 * (z / 100) + z / 10 % 10 = 6 * (z / 100) + z / 10 % 10 := rfl
          refine ⟨fun q => ?_, fun q => ?_⟩
          · have q := b2_0.mp q
            rw [if_neg q]
            have e0 : (if z / 100 < 6 ∧ z / 10 % 10 < 6 ∧ 1 ≤ z % 10 ∧ z % 10 ≤ 3 then be1 M k (6 * (z / 100) + z / 10 % 10) st (z % 10) else st) = st := by
              split
              · rename_i y
                unfold be1
                rw [if_neg (fun u => q ⟨y.2, u⟩)]
              · rfl
            rw [e0] at h4
            exact h4 m0 w ⟨h1.1, by rw [c53, h1.2]⟩ fr
          · have q := b2_n0.mp q
            rw [if_pos q]
            have e0 : (if z / 100 < 6 ∧ z / 10 % 10 < 6 ∧ 1 ≤ z % 10 ∧ z % 10 ≤ 3 then be1 M k (6 * (z / 100) + z / 10 % 10) st (z % 10) else st) = off st z (woS (M 4) (fup (M 2) (6 * (z / 100) + z / 10 % 10) (z % 10)) k) := by
              rw [if_pos ⟨v1, q.1⟩]
              unfold be1
              have y9 := q.1
              rw [if_pos q.2, show 100 * ((6 * (z / 100) + z / 10 % 10) / 6) + 10 * ((6 * (z / 100) + z / 10 % 10) % 6) + z % 10 = z by omega]
            rw [e0] at h4
            have y9 := q.1
            have st1 := G_st g hc (t := 6 * (z / 100) + z / 10 % 10) (v := z % 10) (by omega) q.1.2 q.2.2
            refine ⟨_, _, G_worth 6 st1 (by omega) hc hk k5, cI (G_more 8 _ _) (fun v m2 p => ?_)⟩
            obtain ⟨v1, v2, _, v4⟩ := p
            have s53 : stM m0 340 (6 * (z / 100) + z / 10 % 10) (z % 10) 53 = m' 53 := by rw [stM_ne _ _ _ _ (by decide), c53]
            have c1 : WhM (stM m0 340 (6 * (z / 100) + z / 10 % 10) (z % 10)) w st := ⟨h1.1, by rw [s53, h1.2]⟩
            have c2 := W_more (code := z) c1 v1 v2
            have h3 := h4 m2 _ c2 (FrM_trans v4 (FrM_st fr (by decide) (by omega) (by omega)))
            refine ⟨fun y => ?_, fun y => ?_⟩
            · rw [if_pos y] at h3
              exact h3
            · rw [if_neg y] at h3
              exact h3
      refine q_M_best_0 hK x m ⟨_, _, R_in 8 _ _ _ _, br_t (b2_n0.mpr (by omega)) ⟨_, _, G_worth 6 (G_0 h.2.1 hc (fun a q0 q1 => by rw [m54])) (by omega) hc hk k5, ?_⟩⟩
      exact loop 600 0 (by omega) _ _ ⟨rfl, by rw [mupd_at, fup_at]; rfl⟩ (FrM_53 (FrM_refl m) (by decide) (by decide) (by decide) (by decide))
  · exact ⟨-1, M, M, ⟨⟨by decide, Nat.le_of_ble_eq_true rfl⟩, fun K hK => q_L_best_0 hK x M ⟨_, _, R_isPart 8 M x, br_f (fun q => c (b2_n0.mp q)) (mret_i rfl rfl)⟩⟩, ⟨⟨by decide, Nat.le_of_ble_eq_true rfl⟩, fun K hK => q_M_best_0 hK x M ⟨_, _, R_in 8 _ _ _ _, br_f (fun q => c (by have q := b2_n0.mp q; omega)) (mret_i rfl rfl)⟩⟩, h⟩
end
section
/-! PURE PROOFS 41: drift -/
def drN (s : Int) : Int := w32 (w32 (s * 1103515245) + 12345)
def drG (s : Int) : Int := s / 65536 % 32768
def dr1 (r : (Int → Int) × (Int → Int)) (g : Int) : (Int → Int) × (Int → Int) := if r.1 (g % 36) = 4 then (fup r.1 (g % 36) 0, r.2) else if r.1 (g % 36) ≠ 0 then (fup r.1 (g % 36) 4, r.2) else if 0 < r.2 (1 + g / 64 % 3) then (fup r.1 (g % 36) (1 + g / 64 % 3), fup r.2 (1 + g / 64 % 3) (r.2 (1 + g / 64 % 3) - 1)) else r
def drS (M : mMem) (s : Int) : Nat → Int × (Int → Int) × (Int → Int)
  | 0 => (s, M 2, M 3)
  | i + 1 => (drN (drS M s i).1, dr1 (drS M s i).2 (drG (drN (drS M s i).1)))
theorem drS_s (M : mMem) (s : Int) (i : Nat) : drS M s (i + 1) = (drN (drS M s i).1, dr1 (drS M s i).2 (drG (drN (drS M s i).1))) := rfl
theorem L_once (d : Nat) {m M : mMem} {r : (Int → Int) × (Int → Int)} (h : TrC m M r.1 r.2) {g : Int} (hg : 0 ≤ g ∧ g < 32768) : mN3 (d + 4) 103 [vr 0, vi g] m (fun m' => TrC m' M (dr1 r g).1 (dr1 r g).2 ∧ ∀ k : Nat, (k < 9 ∨ 17 ≤ k) → m' k = m k) := by
  have j1 : jrem g 36 = g % 36 := jrem_nn hg.1
  have j2 : w32 (1 + jrem (jdiv g 64) 3) = 1 + g / 64 % 3 := by rw [jdiv_nn hg.1 (by omega) (by omega), jrem_nn (by omega), w32_s (by omega) (by omega)]
  have kb : 0 ≤ g % 36 ∧ g % 36 < 36 := by omega
  have cb : 1 ≤ 1 + g / 64 % 3 ∧ 1 + g / 64 % 3 ≤ 3 := by omega
  have e1 : m 10 (g % 36) = r.1 (g % 36) := h.2.1 _ kb.1 kb.2
  refine mN3_i ⟨by decide, Nat.le_of_ble_eq_true rfl⟩ (fun K hK => q_L_driftOnce_0 hK g m ?_)
  rw [j1, j2, e1]
  unfold dr1
  generalize g % 36 = k at kb e1 ⊢
  generalize 1 + g / 64 % 3 = c at cb ⊢
  refine mIn_i kb.1 (by omega) ⟨fun q => ⟨fun q2 => ⟨_, _, T_can (d + 2) h kb cb, fun q3 => ?_, fun q3 => ⟨_, R_take d m 9 (by omega) k c kb cb h.1.1.1, ?_⟩⟩, fun q2 => ⟨_, R_put (d + 1) m 9 (by omega) k 4 kb (by omega) h.1.1.1, ?_⟩⟩, fun q => ⟨_, R_put (d + 1) m 9 (by omega) k 0 kb (by omega) h.1.1.1, ?_⟩⟩
  · rw [if_neg q, if_neg (fun z => z q2), if_neg (fun z => b2_0.mp q3 ⟨q2, z⟩)]
    exact rN_i ⟨h, fun _ _ => rfl⟩
  · rw [if_neg q, if_neg (fun z => z q2), if_pos (b2_n0.mp q3).2]
    exact rN_i ⟨T_take h kb cb (b2_n0.mp q3).2, fun x hx => takeM_ne m 9 k c (by omega) (by omega) (by omega) (by omega)⟩
  · rw [if_neg q, if_pos q2]
    exact rN_i ⟨T_put h kb (by omega), fun x hx => put_ne _ _ _ _ (by omega) (by omega) (by omega)⟩
  · rw [if_pos (Decidable.not_not.mp q)]
    exact rN_i ⟨T_put h kb (by omega), fun x hx => put_ne _ _ _ _ (by omega) (by omega) (by omega)⟩
theorem P_drift {M : mMem} (h : Inv M) (s n x : Int) : PairI 79 182 [vi s, vi n, vi x] M := by
  have hc := h.1
  have hp := Pg0_of h.2.1
  have n5 : 0 ≤ M 1 5 ∧ M 1 5 ≤ 5 := hc.2.1
  obtain ⟨k, hk⟩ : ∃ k : Nat, M 1 5 = k := ⟨(M 1 5).toNat, by omega⟩
  have k5 : k ≤ 5 := by omega
  by_cases c : (1 ≤ n ∧ n ≤ 60) ∧ (x = 0 ∨ x = 1)
  · obtain ⟨nn, hn⟩ : ∃ nn : Nat, n = nn := ⟨n.toNat, by omega⟩
    have nb : nn ≤ 60 := by omega
    refine ask_pair (V := if x ≠ 0 then cO (drS M s nn).2.1 4 36 else woS (M 4) (drS M s nn).2.1 k) h ?_ (fun m hm => ?_)
    · refine mI3_i ⟨by decide, Nat.le_of_ble_eq_true rfl⟩ (fun K hK => ?_)
      have loop : ∀ (j i : Nat), i + j = nn → ∀ (m' : mMem) (r : Int × (Int → Int) × (Int → Int)), r = drS M s i → TrC m' M r.2.1 r.2.2 → FrL m' M → K 37 [(0, vr 0), (2, vi n), (3, vi x), (4, vi r.1), (5, vi (i : Int))] [] (S0, m') := by
        intro j
        induction j with
        | zero =>
          intro i hi m' r h0 h1 h2
          rw [show i = nn by omega] at h0 ⊢
          refine q_L_drift_37 hK _ _ _ _ m' (br_t (by rw [hn]; exact Int.le_refl _) ⟨fun q => ⟨_, _, T_cells 8 h1 4, rI_i ⟨?_, h2⟩⟩, fun q => ⟨_, _, T_worth 6 h1 hk k5, rI_i ⟨?_, h2⟩⟩⟩)
          · rw [if_pos q, h0]
          · rw [if_neg q, h0]
        | succ j ih =>
          intro i hi m' r h0 h1 h2
          have h4 := ih (i + 1) (by omega)
          rw [drS_s, ← h0] at h4
          have ew : w32 ((i : Int) + 1) = ((i + 1 : Nat) : Int) := by rw [w32_s (by omega) (by omega)]; omega
          have lt : ¬ n ≤ (i : Int) := by omega
          refine q_L_drift_37 hK _ _ _ _ m' (br_f lt ?_)
          rw [ew, ush_16]
          show ∃ m5, mR3 9 103 [vr 0, vi (drG (drN r.1))] (S0, m') (none, (S0, m5)) ∧ K 37 [(0, vr 0), (2, vi n), (3, vi x), (4, vi (drN r.1)), (5, vi ((i + 1 : Nat) : Int))] [] (S0, m5)
          have gb : 0 ≤ drG (drN r.1) ∧ drG (drN r.1) < 32768 := by
            unfold drG
            omega
          refine cN (L_once 5 h1 gb) (fun m2 p => ?_)
          exact h4 m2 _ rfl p.1 (FrL_row h2 (fun k a _ _ _ _ _ => p.2 k a))
      have t0 := T_copy (m := M) hc (fun _ _ _ => rfl)
      exact q_L_drift_0 hK s n x M (br_f (by omega) (br_f (by omega) ⟨_, _, R_isPart 8 M x, br_t (b2_n0.mpr c.2) ⟨_, R_copyFrom 8 M 9 1 (by unfold cpP; omega), loop nn 0 (by omega) _ _ rfl t0 (FrL_row (FrL_refl M) (fun k a _ _ _ _ _ => cpy_ne M (by omega)))⟩⟩))
    · refine mI3_i ⟨by decide, Nat.le_of_ble_eq_true rfl⟩ (fun K hK => ?_)
      have m54 := (FrL_lo hm).2
      have loop : ∀ (j i : Nat), i + j = nn → ∀ (m' : mMem) (r : Int × (Int → Int) × (Int → Int)), r = drS M s i → PgC m' M 340 r.2.1 r.2.2 → FrM m' m → K 38 [(0, vr 53), (2, vi n), (3, vi x), (4, vi r.1), (5, vi (i : Int))] [] (S0, m') := by
        intro j
        induction j with
        | zero =>
          intro i hi m' r h0 h1 h2
          rw [show i = nn by omega] at h0 ⊢
          have g := R_holesOn 8 m' 340 (by omega)
          have g2 : cO (pg m' 340) 4 36 = cO r.2.1 4 36 := cO_cong h1.1
          rw [g2] at g
          refine q_M_drift_38 hK _ _ _ _ m' (br_t (by rw [hn]; exact Int.le_refl _) ⟨fun q => ⟨_, _, g, rI_i ⟨?_, h2⟩⟩, fun q => ⟨_, _, G_worth 6 h1 (by omega) hc hk k5, rI_i ⟨?_, h2⟩⟩⟩)
          · rw [if_pos q, h0]
          · rw [if_neg q, h0]
        | succ j ih =>
          intro i hi m' r h0 h1 h2
          have h4 := ih (i + 1) (by omega)
          rw [drS_s, ← h0] at h4
          have ew : w32 ((i : Int) + 1) = ((i + 1 : Nat) : Int) := by rw [w32_s (by omega) (by omega)]; omega
          have lt : ¬ n ≤ (i : Int) := by omega
          refine q_M_drift_38 hK _ _ _ _ m' (br_f lt ?_)
          rw [sh_16 (w32_in _)]
          show K 66 [(0, vr 53), (2, vi n), (3, vi x), (4, vi (drN r.1)), (5, vi (i : Int)), (6, vi (drG (drN r.1)))] [] (S0, m')
          have gb : 0 ≤ drG (drN r.1) ∧ drG (drN r.1) < 32768 := by
            unfold drG
            omega
          generalize drG (drN r.1) = g at gb h4 ⊢
          have j1 : jrem g 36 = g % 36 := jrem_nn gb.1
          have j2 : w32 (1 + jrem (jdiv g 64) 3) = 1 + g / 64 % 3 := by rw [jdiv_nn gb.1 (by omega) (by omega), jrem_nn (by omega), w32_s (by omega) (by omega)]
          have kb : 0 ≤ g % 36 ∧ g % 36 < 36 := by omega
          have cb : 1 ≤ 1 + g / 64 % 3 ∧ 1 + g / 64 % 3 ≤ 3 := by omega
          refine q_M_drift_66 hK _ _ _ _ _ m' ?_
          rw [j1]
          unfold dr1 at h4
          have k86 := fun q7 q8 => q_M_drift_86 hK n x (drN r.1) (i : Int) g q7 q8 m'
          rw [j2] at k86
          generalize g % 36 = k at kb h4 ⊢
          generalize 1 + g / 64 % 3 = c at cb h4 k86
          have w1 : w32 (340 + k) = 340 + k := w32_s (by omega) (by omega)
          have mk : m' 54 (340 + k) = r.2.1 k := h1.1 k kb.1 kb.2
          rw [w1, mk]
          refine mIn_i (by omega) (by omega) (k86 _ _ ?_)
          rw [w1, ew]
          refine ⟨fun q => ⟨fun q2 => mIn_i (by omega) (by omega) ?_, fun q2 => mIn_i (by omega) (by omega) ?_⟩, fun q => ⟨_, _, G_stitch 8 h1 (by omega) kb cb, ?_⟩⟩
          · rw [if_neg q2, if_pos q] at h4
            exact h4 _ _ rfl (G_set h1 hc kb) (FrM_set h2 (by omega))
          · rw [if_pos (Decidable.not_not.mp q2)] at h4
            exact h4 _ _ rfl (G_set h1 hc kb) (FrM_set h2 (by omega))
          · have q := Decidable.not_not.mp q
            rw [if_neg (by omega), if_neg (fun z => z q)] at h4
            by_cases y : 0 < r.2.2 c
            · rw [if_pos ⟨q, y⟩]
              rw [if_pos y] at h4
              exact h4 _ _ rfl (G_st h1 hc kb cb y) (FrM_st h2 (by decide) kb.1 (by omega))
            · rw [if_neg (fun z => y z.2)]
              rw [if_neg y] at h4
              exact h4 _ _ rfl h1 h2
      have g := G_copy (m := m) (p := 340) h.2.1 hc (fun a q0 q1 => by rw [m54])
      exact q_M_drift_0 hK s n x m ⟨_, _, R_in 8 _ _ _ _, br_f (fun q => b2_0.mp q (by omega)) ⟨_, _, R_in 8 _ _ _ _, br_t (b2_n0.mpr (by omega)) ⟨_, R_copies 8 m 0 340 (by omega) (by omega) (by omega), loop nn 0 (by omega) _ _ rfl g (FrM_cpy (FrM_refl m) (by decide))⟩⟩⟩
  · refine ⟨-1, M, M, ⟨⟨by decide, Nat.le_of_ble_eq_true rfl⟩, fun K hK => q_L_drift_0 hK s n x M ⟨fun _ => mret_i rfl rfl, fun q => ⟨fun _ => mret_i rfl rfl, fun q1 => ⟨_, _, R_isPart 8 M x, br_f (fun q2 => c ⟨by omega, b2_n0.mp q2⟩) (mret_i rfl rfl)⟩⟩⟩⟩, ⟨⟨by decide, Nat.le_of_ble_eq_true rfl⟩, fun K hK => q_M_drift_0 hK s n x M ⟨_, _, R_in 8 _ _ _ _, ⟨fun _ => mret_i rfl rfl, fun q => ⟨_, _, R_in 8 _ _ _ _, br_f (fun q2 => ?_) (mret_i rfl rfl)⟩⟩⟩⟩, h⟩
    have q := b2_n0.mp q
    have q2 := b2_n0.mp q2
    exact c ⟨q, by omega⟩
end
