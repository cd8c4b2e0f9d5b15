/-! PURE PROOFS 21: plan, enact -/
theorem P_plan {M : mMem} (h : Inv M) (x y z : Int) : PairI 56 145 [vi x, vi y, vi z] M := by
  have hc := h.1
  have hp := Pg0_of h.2.1
  have n0 : 0 ≤ M 1 6 ∧ M 1 6 ≤ 8 := hc.2.2.2.1
  have p5 : M 54 60 = M 1 6 := hp.2.2.2.2.1
  by_cases c : (0 ≤ x ∧ x < 6 ∧ 0 ≤ y ∧ y < 6) ∧ 1 ≤ z ∧ z ≤ 3
  · by_cases c2 : M 1 6 < 8
    · have w1 : w32 (M 1 6 + 1) = M 1 6 + 1 := w32_s (by omega) (by omega)
      have x1 : mupd M 5 (M 1 6) (6 * x + y) 1 6 = M 1 6 := by rw [mupd_ne _ _ _ (by decide)]
      have x2 : mupd (mupd M 5 (M 1 6) (6 * x + y)) 6 (M 1 6) z 1 6 = M 1 6 := by rw [mupd_ne _ _ _ (by decide), x1]
      have a1 : mR3 10 56 [vr 0, vi x, vi y, vi z] (S0, M) (some (vi (M 1 6 + 1)), (S0, mupd (mupd (mupd M 5 (M 1 6) (6 * x + y)) 6 (M 1 6) z) 1 6 (M 1 6 + 1))) := by
        refine ⟨⟨by decide, Nat.le_of_ble_eq_true rfl⟩, fun K hK => q_L_plan_0 hK x y z M ⟨_, _, R_isCell 8 M x y, br_f (fun q => b2_0.mp q c.1) ⟨_, _, R_isColour 8 M z, br_t (b2_n0.mpr c.2) (br_t c2 ⟨_, _, R_place 8 M (x := x) (y := y) (by omega) (by omega), mIn_i (by omega) (by omega) ?_⟩)⟩⟩⟩
        rw [x1, x2, w1]
        exact mIn_i (by omega) (by omega) (mret_i (by rw [mupd_at, fup_at]) rfl)
      have e0 : ∀ k : Nat, k ≠ 1 → k ≠ 5 → k ≠ 6 → mupd (mupd (mupd M 5 (M 1 6) (6 * x + y)) 6 (M 1 6) z) 1 6 (M 1 6 + 1) k = M k := fun k h1 h2 h3 => by rw [mupd_ne _ _ _ h1, mupd_ne _ _ _ h3, mupd_ne _ _ _ h2]
      have f1 : mupd (mupd (mupd M 5 (M 1 6) (6 * x + y)) 6 (M 1 6) z) 1 6 (M 1 6 + 1) 1 = fup (M 1) 6 (M 1 6 + 1) := by rw [mupd_at, mupd_ne _ _ _ (by decide), mupd_ne _ _ _ (by decide)]
      have f5 : mupd (mupd (mupd M 5 (M 1 6) (6 * x + y)) 6 (M 1 6) z) 1 6 (M 1 6 + 1) 5 = fup (M 5) (M 1 6) (6 * x + y) := by rw [mupd_ne _ _ _ (by decide), mupd_ne _ _ _ (by decide), mupd_at]
      have f6 : mupd (mupd (mupd M 5 (M 1 6) (6 * x + y)) 6 (M 1 6) z) 1 6 (M 1 6 + 1) 6 = fup (M 6) (M 1 6) z := by rw [mupd_ne _ _ _ (by decide), mupd_at, mupd_ne _ _ _ (by decide)]
      generalize mupd (mupd (mupd M 5 (M 1 6) (6 * x + y)) 6 (M 1 6) z) 1 6 (M 1 6 + 1) = m at a1 e0 f1 f5 f6
      generalize hn : M 1 6 = n at *
      have y1 : m 54 60 = n := by
        rw [e0 54 (by decide) (by decide) (by decide)]
        exact p5
      have i1 : w32 (61 + w32 (3 * n)) = 61 + 3 * n := by rw [w32_s (z := 3 * n) (by omega) (by omega), w32_s (by omega) (by omega)]
      have i2 : w32 (61 + 3 * n + 1) = 62 + 3 * n := by
        rw [w32_s (by omega) (by omega)]
        omega
      have i3 : w32 (61 + 3 * n + 2) = 63 + 3 * n := by
        rw [w32_s (by omega) (by omega)]
        omega
      have y2 : mupd (mupd (mupd m 54 (61 + 3 * n) x) 54 (62 + 3 * n) y) 54 (63 + 3 * n) z 54 60 = n := by
        rw [mupd_at, fup_ne _ _ (by omega), mupd_at, fup_ne _ _ (by omega), mupd_at, fup_ne _ _ (by omega)]
        exact y1
      have a2 : mR3 10 145 [vr 53, vi x, vi y, vi z] (S0, m) (some (vi (n + 1)), (S0, mupd (mupd (mupd (mupd m 54 (61 + 3 * n) x) 54 (62 + 3 * n) y) 54 (63 + 3 * n) z) 54 60 (n + 1))) := by
        refine ⟨⟨by decide, Nat.le_of_ble_eq_true rfl⟩, fun K hK => q_M_plan_0 hK x y z m ⟨_, _, R_mIsCell 7 m x y, br_f (fun q => b2_0.mp q c.1) ⟨_, _, R_mIsColour 7 m z, br_t (b2_n0.mpr c.2) (br_t (by omega) ?_)⟩⟩⟩
        rw [y1, i1, i2, i3, y2, w1]
        exact mIn_i (by omega) (by omega) (mIn_i (by omega) (by omega) (mIn_i (by omega) (by omega) (mret_i (by rw [mupd_at, fup_at]) rfl)))
      refine ⟨_, _, _, a1, a2, ?_⟩
      have e : ∀ k : Nat, k ≠ 1 → k ≠ 5 → k ≠ 6 → k ≠ 54 → mupd (mupd (mupd (mupd m 54 (61 + 3 * n) x) 54 (62 + 3 * n) y) 54 (63 + 3 * n) z) 54 60 (n + 1) k = M k := fun k h1 h2 h3 h4 => by rw [mupd_ne _ _ _ h4, mupd_ne _ _ _ h4, mupd_ne _ _ _ h4, mupd_ne _ _ _ h4, e0 k h1 h2 h3]
      have d : ∀ k : Nat, k ≠ 54 → mupd (mupd (mupd (mupd m 54 (61 + 3 * n) x) 54 (62 + 3 * n) y) 54 (63 + 3 * n) z) 54 60 (n + 1) k = m k := fun k h4 => by rw [mupd_ne _ _ _ h4, mupd_ne _ _ _ h4, mupd_ne _ _ _ h4, mupd_ne _ _ _ h4]
      have f54 : mupd (mupd (mupd (mupd m 54 (61 + 3 * n) x) 54 (62 + 3 * n) y) 54 (63 + 3 * n) z) 54 60 (n + 1) 54 = fup (fup (fup (fup (M 54) (61 + 3 * n) x) (62 + 3 * n) y) (63 + 3 * n) z) 60 (n + 1) := by rw [mupd_at, mupd_at, mupd_at, mupd_at, e0 54 (by decide) (by decide) (by decide)]
      generalize mupd (mupd (mupd (mupd m 54 (61 + 3 * n) x) 54 (62 + 3 * n) y) 54 (63 + 3 * n) z) 54 60 (n + 1) = m' at e d f54
      have u1 : m' 1 = fup (M 1) 6 (n + 1) := by rw [d 1 (by decide), f1]
      have u5 : m' 5 = fup (M 5) n (6 * x + y) := by rw [d 5 (by decide), f5]
      have u6 : m' 6 = fup (M 6) n z := by rw [d 6 (by decide), f6]
      have v5 : m' 1 5 = M 1 5 := by rw [u1, fup_ne _ _ (by decide)]
      have v6 : m' 1 6 = n + 1 := by rw [u1, fup_at]
      have far : ∀ i : Int, (i < 60 ∨ 85 ≤ i) → m' 54 i = M 54 i := fun i hi => by rw [f54, fup_ne _ _ (by omega), fup_ne _ _ (by omega), fup_ne _ _ (by omega), fup_ne _ _ (by omega)]
      refine Inv_c1 h (Cht_mk hc (e 2 (by decide) (by decide) (by decide) (by decide)) (e 7 (by decide) (by decide) (by decide) (by decide)) (e 8 (by decide) (by decide) (by decide) (by decide)) ?_ ?_ ?_ ?_ ?_) (Pg_of0 ?_) (fun k h1 h2 => e k (by omega) (by omega) (by omega) h2) (fun i h0 h1 => far i (by omega))
      · rw [v5]
        exact hc.2.1
      · rw [v5, e (1 + 3) (by decide) (by decide) (by decide) (by decide)]
        exact hc.2.2.1
      · rw [v6]
        omega
      · show planOK (m' 5) (m' 6) (m' 1 6)
        rw [v6, u5, u6]
        intro i h0 h1
        by_cases q : i = n
        · rw [q, fup_at, fup_at]
          omega
        · rw [fup_ne _ _ q, fup_ne _ _ q]
          exact hc.2.2.2.2.1 i h0 (by omega)
      · rw [e (1 + 2) (by decide) (by decide) (by decide) (by decide)]
        exact hc.2.2.2.2.2
      · unfold Pg0
        rw [v5, v6, u5, u6, e 2 (by decide) (by decide) (by decide) (by decide), e 3 (by decide) (by decide) (by decide) (by decide), e 4 (by decide) (by decide) (by decide) (by decide)]
        refine ⟨fun i h0 h1 => ?_, fun i h0 h1 => ?_, ?_, fun l' q h0 h1 h2 h3 => ?_, ?_, fun i h0 h1 => ?_⟩
        · rw [far _ (by omega)]
          exact hp.1 i h0 h1
        · rw [far _ (by omega)]
          exact hp.2.1 i h0 h1
        · rw [far _ (by omega)]
          exact hp.2.2.1
        · have b5 : 0 ≤ M 1 5 ∧ M 1 5 ≤ 5 := hc.2.1
          rw [far _ (by omega)]
          exact hp.2.2.2.1 l' q h0 h1 h2 h3
        · rw [f54, fup_at]
        · by_cases q : i = n
          · have t1 : m' 54 (61 + 3 * n) = x := by rw [f54, fup_ne _ _ (by omega), fup_ne _ _ (by omega), fup_ne _ _ (by omega), fup_at]
            have t2 : m' 54 (62 + 3 * n) = y := by rw [f54, fup_ne _ _ (by omega), fup_ne _ _ (by omega), fup_at]
            have t3 : m' 54 (63 + 3 * n) = z := by rw [f54, fup_ne _ _ (by omega), fup_at]
            rw [q, fup_at, fup_at, t1, t2, t3]
            exact ⟨rfl, by omega, rfl⟩
          · have t : ∀ j : Int, 60 < j → j < 61 + 3 * n → m' 54 j = M 54 j := fun j q0 q1 => by rw [f54, fup_ne _ _ (by omega), fup_ne _ _ (by omega), fup_ne _ _ (by omega), fup_ne _ _ (by omega)]
            rw [fup_ne _ _ q, fup_ne _ _ q, t _ (by omega) (by omega), t (62 + 3 * i) (by omega) (by omega), t (63 + 3 * i) (by omega) (by omega)]
            exact hp.2.2.2.2.2 i h0 (by omega)
    · refine ⟨-3, M, M, ⟨⟨by decide, Nat.le_of_ble_eq_true rfl⟩, fun K hK => q_L_plan_0 hK x y z M ⟨_, _, R_isCell 8 M x y, br_f (fun q => b2_0.mp q c.1) ⟨_, _, R_isColour 8 M z, br_t (b2_n0.mpr c.2) (br_f c2 (mret_i rfl rfl))⟩⟩⟩, ⟨⟨by decide, Nat.le_of_ble_eq_true rfl⟩, fun K hK => q_M_plan_0 hK x y z M ⟨_, _, R_mIsCell 7 M x y, br_f (fun q => b2_0.mp q c.1) ⟨_, _, R_mIsColour 7 M z, br_t (b2_n0.mpr c.2) (br_f (fun q => q (by omega)) (mret_i rfl rfl))⟩⟩⟩, h⟩
  · refine ⟨-1, M, M, ⟨⟨by decide, Nat.le_of_ble_eq_true rfl⟩, fun K hK => q_L_plan_0 hK x y z M ⟨_, _, R_isCell 8 M x y, ⟨fun _ => mret_i rfl rfl, fun q => ⟨_, _, R_isColour 8 M z, br_f (fun q2 => c ⟨b2_n0.mp q, b2_n0.mp q2⟩) (mret_i rfl rfl)⟩⟩⟩⟩, ⟨⟨by decide, Nat.le_of_ble_eq_true rfl⟩, fun K hK => q_M_plan_0 hK x y z M ⟨_, _, R_mIsCell 7 M x y, ⟨fun _ => mret_i rfl rfl, fun q => ⟨_, _, R_mIsColour 7 M z, br_f (fun q2 => c ⟨b2_n0.mp q, b2_n0.mp q2⟩) (mret_i rfl rfl)⟩⟩⟩⟩, h⟩
theorem P_enact {M : mMem} (h : Inv M) (x y z w : Int) : PairI 58 147 [vi x, vi y, vi z, vi w] M := by
  have hc := h.1
  have hp := Pg0_of h.2.1
  have n0 : 0 ≤ M 1 5 ∧ M 1 5 ≤ 5 := hc.2.1
  have p3 : M 54 39 = M 1 5 := hp.2.2.1
  by_cases c : (0 ≤ x ∧ x ≤ 3) ∧ (1 ≤ y ∧ y ≤ 3) ∧ (1 ≤ z ∧ z ≤ 3) ∧ 1 ≤ w ∧ w ≤ 9
  · by_cases c2 : M 1 5 < 5
    · have w1 : w32 (M 1 5 + 1) = M 1 5 + 1 := w32_s (by omega) (by omega)
      have ch := alM_cht (kd := x) (a := y) (c := z) (w := w) hc c2 c.1 c.2.1 c.2.2.1 c.2.2.2
      have a1 : mR3 10 58 [vr 0, vi x, vi y, vi z, vi w] (S0, M) (some (vi (M 1 5 + 1)), (S0, alM M 1 x y z w)) := by
        refine ⟨⟨by decide, Nat.le_of_ble_eq_true rfl⟩, fun K hK => q_L_enact_0 hK x y z w M ⟨_, _, R_isLawPart 7 M 0 x, br_f (fun q => b2_0.mp q (by omega)) ⟨_, _, R_isLawPart 7 M 1 y, br_f (fun q => b2_0.mp q (by omega)) ⟨_, _, R_isLawPart 7 M 2 z, br_f (fun q => b2_0.mp q (by omega)) ⟨_, _, R_isLawPart 7 M 3 w, br_t (b2_n0.mpr (by omega)) (br_t c2 ⟨_, R_addLaw 8 M 1 (by omega) x y z w ⟨n0.1, c2⟩, ?_⟩)⟩⟩⟩⟩⟩
        exact mret_i (by rw [alM_0, fup_at]) rfl
      have e0 : ∀ k : Nat, k ≠ 1 → k ≠ 4 → alM M 1 x y z w k = M k := fun k h1 h2 => alM_ne M 1 x y z w h1 h2
      have f1 : alM M 1 x y z w 1 = fup (M 1) 5 (M 1 5 + 1) := alM_0 M 1 x y z w
      have f4 : alM M 1 x y z w 4 = fup (fup (fup (fup (M 4) (4 * M 1 5) x) (4 * M 1 5 + 1) y) (4 * M 1 5 + 2) z) (4 * M 1 5 + 3) w := alM_3 M 1 x y z w
      generalize alM M 1 x y z w = m at a1 e0 f1 f4 ch
      generalize hn : M 1 5 = n at *
      have y1 : m 54 39 = n := by
        rw [e0 54 (by decide) (by decide)]
        exact p3
      have i1 : w32 (40 + n) = 40 + n := w32_s (by omega) (by omega)
      have i2 : w32 (45 + n) = 45 + n := w32_s (by omega) (by omega)
      have i3 : w32 (50 + n) = 50 + n := w32_s (by omega) (by omega)
      have i4 : w32 (55 + n) = 55 + n := w32_s (by omega) (by omega)
      have y2 : mupd (mupd (mupd (mupd m 54 (40 + n) x) 54 (45 + n) y) 54 (50 + n) z) 54 (55 + n) w 54 39 = n := by
        rw [mupd_at, fup_ne _ _ (by omega), mupd_at, fup_ne _ _ (by omega), mupd_at, fup_ne _ _ (by omega), mupd_at, fup_ne _ _ (by omega)]
        exact y1
      have a2 : mR3 10 147 [vr 53, vi x, vi y, vi z, vi w] (S0, m) (some (vi (n + 1)), (S0, mupd (mupd (mupd (mupd (mupd m 54 (40 + n) x) 54 (45 + n) y) 54 (50 + n) z) 54 (55 + n) w) 54 39 (n + 1))) := by
        refine ⟨⟨by decide, Nat.le_of_ble_eq_true rfl⟩, fun K hK => q_M_enact_0 hK x y z w m ⟨_, _, R_in 8 _ _ _ _, br_f (fun q => b2_0.mp q (by omega)) ⟨_, _, R_mIsColour 7 m y, br_f (fun q => b2_0.mp q c.2.1) ⟨_, _, R_mIsColour 7 m z, br_f (fun q => b2_0.mp q c.2.2.1) ⟨_, _, R_in 8 _ _ _ _, br_t (b2_n0.mpr (by omega)) (br_t (by omega) ?_)⟩⟩⟩⟩⟩
        rw [y1, i1, i2, i3, i4, y2, w1]
        exact mIn_i (by omega) (by omega) (mIn_i (by omega) (by omega) (mIn_i (by omega) (by omega) (mIn_i (by omega) (by omega) (mret_i (by rw [mupd_at, fup_at]) rfl))))
      refine ⟨_, _, _, a1, a2, ?_⟩
      have d : ∀ k : Nat, k ≠ 54 → mupd (mupd (mupd (mupd (mupd m 54 (40 + n) x) 54 (45 + n) y) 54 (50 + n) z) 54 (55 + n) w) 54 39 (n + 1) k = m k := fun k h4 => by rw [mupd_ne _ _ _ h4, mupd_ne _ _ _ h4, mupd_ne _ _ _ h4, mupd_ne _ _ _ h4, mupd_ne _ _ _ h4]
      have f54 : mupd (mupd (mupd (mupd (mupd m 54 (40 + n) x) 54 (45 + n) y) 54 (50 + n) z) 54 (55 + n) w) 54 39 (n + 1) 54 = fup (fup (fup (fup (fup (M 54) (40 + n) x) (45 + n) y) (50 + n) z) (55 + n) w) 39 (n + 1) := by rw [mupd_at, mupd_at, mupd_at, mupd_at, mupd_at, e0 54 (by decide) (by decide)]
      generalize mupd (mupd (mupd (mupd (mupd m 54 (40 + n) x) 54 (45 + n) y) 54 (50 + n) z) 54 (55 + n) w) 54 39 (n + 1) = m' at d f54
      have far : ∀ i : Int, (i < 39 ∨ 60 ≤ i) → m' 54 i = M 54 i := fun i hi => by rw [f54, fup_ne _ _ (by omega), fup_ne _ _ (by omega), fup_ne _ _ (by omega), fup_ne _ _ (by omega), fup_ne _ _ (by omega)]
      have u1 : m' 1 = fup (M 1) 5 (n + 1) := by rw [d 1 (by decide), f1]
      have u4 : m' 4 = fup (fup (fup (fup (M 4) (4 * n) x) (4 * n + 1) y) (4 * n + 2) z) (4 * n + 3) w := by rw [d 4 (by decide), f4]
      have v5 : m' 1 5 = n + 1 := by rw [u1, fup_at]
      have v6 : m' 1 6 = M 1 6 := by rw [u1, fup_ne _ _ (by decide)]
      have e : ∀ k : Nat, k ≠ 1 → k ≠ 4 → k ≠ 54 → m' k = M k := fun k h1 h2 h3 => by rw [d k h3, e0 k h1 h2]
      refine Inv_c1 h (Cht_eq ch (fun k h0 h1 => d k (by omega))) (Pg_of0 ?_) (fun k h1 h2 => e k (by omega) (by omega) h2) (fun i h0 h1 => far i (by omega))
      unfold Pg0
      rw [v5, v6, u4, e 2 (by decide) (by decide) (by decide), e 3 (by decide) (by decide) (by decide), e 5 (by decide) (by decide) (by decide), e 6 (by decide) (by decide) (by decide)]
      refine ⟨fun i h0 h1 => ?_, fun i h0 h1 => ?_, ?_, fun l q h0 h1 h2 h3 => ?_, ?_, fun i h0 h1 => ?_⟩
      · rw [far _ (by omega)]
        exact hp.1 i h0 h1
      · rw [far _ (by omega)]
        exact hp.2.1 i h0 h1
      · rw [f54, fup_at]
      · rw [f54, fup_ne _ _ (by omega)]
        by_cases k : l = n
        · rw [k]
          have qq : q = 0 ∨ q = 1 ∨ q = 2 ∨ q = 3 := by omega
          unfold fup
          split <;> split <;> (try split) <;> (try split) <;> (try split) <;> (try split) <;> (try split) <;> (try split) <;> omega
        · have g := hp.2.2.2.1 l q h0 (by omega) h2 h3
          rw [fup_ne _ _ (by omega), fup_ne _ _ (by omega), fup_ne _ _ (by omega), fup_ne _ _ (by omega), fup_ne _ _ (by omega), fup_ne _ _ (by omega), fup_ne _ _ (by omega), fup_ne _ _ (by omega)]
          exact g
      · rw [far _ (by omega)]
        exact hp.2.2.2.2.1
      · rw [far _ (by omega), far (62 + 3 * i) (by omega), far (63 + 3 * i) (by omega)]
        exact hp.2.2.2.2.2 i h0 h1
    · refine ⟨-3, M, M, ⟨⟨by decide, Nat.le_of_ble_eq_true rfl⟩, fun K hK => q_L_enact_0 hK x y z w M ⟨_, _, R_isLawPart 7 M 0 x, br_f (fun q => b2_0.mp q (by omega)) ⟨_, _, R_isLawPart 7 M 1 y, br_f (fun q => b2_0.mp q (by omega)) ⟨_, _, R_isLawPart 7 M 2 z, br_f (fun q => b2_0.mp q (by omega)) ⟨_, _, R_isLawPart 7 M 3 w, br_t (b2_n0.mpr (by omega)) (br_f c2 (mret_i rfl rfl))⟩⟩⟩⟩⟩, ⟨⟨by decide, Nat.le_of_ble_eq_true rfl⟩, fun K hK => q_M_enact_0 hK x y z w M ⟨_, _, R_in 8 _ _ _ _, br_f (fun q => b2_0.mp q (by omega)) ⟨_, _, R_mIsColour 7 M y, br_f (fun q => b2_0.mp q c.2.1) ⟨_, _, R_mIsColour 7 M z, br_f (fun q => b2_0.mp q c.2.2.1) ⟨_, _, R_in 8 _ _ _ _, br_t (b2_n0.mpr (by omega)) (br_f (fun q => q (by omega)) (mret_i rfl rfl))⟩⟩⟩⟩⟩, h⟩
  · refine ⟨-1, M, M, ⟨⟨by decide, Nat.le_of_ble_eq_true rfl⟩, fun K hK => q_L_enact_0 hK x y z w M ⟨_, _, R_isLawPart 7 M 0 x, ⟨fun _ => mret_i rfl rfl, fun q1 => ⟨_, _, R_isLawPart 7 M 1 y, ⟨fun _ => mret_i rfl rfl, fun q2 => ⟨_, _, R_isLawPart 7 M 2 z, ⟨fun _ => mret_i rfl rfl, fun q3 => ⟨_, _, R_isLawPart 7 M 3 w, br_f (fun q4 => ?_) (mret_i rfl rfl)⟩⟩⟩⟩⟩⟩⟩⟩, ⟨⟨by decide, Nat.le_of_ble_eq_true rfl⟩, fun K hK => q_M_enact_0 hK x y z w M ⟨_, _, R_in 8 _ _ _ _, ⟨fun _ => mret_i rfl rfl, fun q1 => ⟨_, _, R_mIsColour 7 M y, ⟨fun _ => mret_i rfl rfl, fun q2 => ⟨_, _, R_mIsColour 7 M z, ⟨fun _ => mret_i rfl rfl, fun q3 => ⟨_, _, R_in 8 _ _ _ _, br_f (fun q4 => ?_) (mret_i rfl rfl)⟩⟩⟩⟩⟩⟩⟩⟩, h⟩
    · have q1 := b2_n0.mp q1
      have q2 := b2_n0.mp q2
      have q3 := b2_n0.mp q3
      have q4 := b2_n0.mp q4
      omega
    · have q1 := b2_n0.mp q1
      have q2 := b2_n0.mp q2
      have q3 := b2_n0.mp q3
      have q4 := b2_n0.mp q4
      omega
