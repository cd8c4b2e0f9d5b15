/-! PURE PROOFS 20: spool, amend -/
theorem P_spool {M : mMem} (h : Inv M) (x v : Int) : PairI 55 144 [vi x, vi v] M := by
  have hc := h.1
  have hp := Pg0_of h.2.1
  by_cases c : (1 ≤ x ∧ x ≤ 3) ∧ 0 ≤ v ∧ v ≤ 99
  · have sp : 0 ≤ M 3 x ∧ M 3 x ≤ 99 := hc.2.2.2.2.2 x c.1.1 c.1.2
    have g2 : M 54 (35 + x) + 20 = M 3 x := hp.2.1 x c.1.1 c.1.2
    have a1 : mR3 10 55 [vr 0, vi x, vi v] (S0, M) (some (vi (M 3 x)), (S0, mupd M 3 x v)) :=
      ⟨⟨by decide, Nat.le_of_ble_eq_true rfl⟩, fun K hK => q_L_spool_0 hK x v M ⟨_, _, R_isColour 8 M x, br_f (fun z => b2_0.mp z c.1) (br_f (by omega) (br_t c.2.2 (mIn_i (by omega) (by omega) (mIn_i (by omega) (by omega) (mret_i rfl rfl)))))⟩⟩
    have e54 : mupd M 3 x v 54 = M 54 := mupd_ne _ _ _ (by decide)
    have i1 : w32 (w32 (36 + x) - 1) = 35 + x := by
      rw [w32_s (z := 36 + x) (by omega) (by omega), w32_s (by omega) (by omega)]
      omega
    have a2 : mR3 10 144 [vr 53, vi x, vi v] (S0, mupd M 3 x v) (some (vi (M 3 x)), (S0, mupd (mupd M 3 x v) 54 (35 + x) (v - 20))) := by
      refine ⟨⟨by decide, Nat.le_of_ble_eq_true rfl⟩, fun K hK => q_M_spool_0 hK x v _ ⟨_, _, R_mIsColour 7 _ x, br_f (fun z => b2_0.mp z c.1) ⟨_, _, R_in 8 _ _ _ _, br_f (fun z => b2_0.mp z (by omega)) (q_M_spool_25 hK x v 1 _ ?_)⟩⟩⟩
      rw [i1]
      refine ⟨_, _, R_puts 8 _ 1 (35 + x) v 20 (fun _ => ⟨by omega, by omega⟩), ?_⟩
      rw [if_pos (by decide), if_pos (by decide), e54, g2, w32_s (z := M 3 x) (by omega) (by omega), w32_s (by omega) (by omega)]
      exact mret_i rfl rfl
    refine ⟨_, _, _, a1, a2, ?_⟩
    have e : ∀ k : Nat, k ≠ 3 → k ≠ 54 → mupd (mupd M 3 x v) 54 (35 + x) (v - 20) k = M k := fun k h1 h2 => by rw [mupd_ne _ _ _ h2, mupd_ne _ _ _ h1]
    have f3 : mupd (mupd M 3 x v) 54 (35 + x) (v - 20) 3 = fup (M 3) x v := by rw [mupd_ne _ _ _ (by decide), mupd_at]
    have f54 : mupd (mupd M 3 x v) 54 (35 + x) (v - 20) 54 = fup (M 54) (35 + x) (v - 20) := by rw [mupd_at, e54]
    generalize mupd (mupd M 3 x v) 54 (35 + x) (v - 20) = m at e f3 f54
    refine Inv_c1 h (Cht_mk hc (e 2 (by decide) (by decide)) (e 7 (by decide) (by decide)) (e 8 (by decide) (by decide)) ?_ ?_ ?_ ?_ ?_) (Pg_of0 ?_) (fun k h1 h2 => e k (by omega) h2) (fun i h0 h1 => by rw [f54, fup_ne _ _ (by omega)])
    · rw [e 1 (by decide) (by decide)]
      exact hc.2.1
    · rw [e 1 (by decide) (by decide), e (1 + 3) (by decide) (by decide)]
      exact hc.2.2.1
    · rw [e 1 (by decide) (by decide)]
      exact hc.2.2.2.1
    · rw [e 1 (by decide) (by decide), e (1 + 4) (by decide) (by decide), e (1 + 5) (by decide) (by decide)]
      exact hc.2.2.2.2.1
    · show spOK (m 3)
      rw [f3]
      intro c' h0 h1
      have g : 0 ≤ M 3 c' ∧ M 3 c' ≤ 99 := hc.2.2.2.2.2 c' h0 h1
      unfold fup
      split <;> omega
    · unfold Pg0
      rw [f54, f3, e 1 (by decide) (by decide), e 2 (by decide) (by decide), e 4 (by decide) (by decide), e 5 (by decide) (by decide), e 6 (by decide) (by decide)]
      refine ⟨fun i h0 h1 => ?_, fun i h0 h1 => ?_, ?_, fun l y h0 h1 h2 h3 => ?_, ?_, fun i h0 h1 => ?_⟩
      · rw [fup_ne _ _ (by omega)]
        exact hp.1 i h0 h1
      · have g := hp.2.1 i h0 h1
        unfold fup
        split <;> split <;> omega
      · rw [fup_ne _ _ (by omega)]
        exact hp.2.2.1
      · rw [fup_ne _ _ (by omega)]
        exact hp.2.2.2.1 l y h0 h1 h2 h3
      · rw [fup_ne _ _ (by omega)]
        exact hp.2.2.2.2.1
      · rw [fup_ne _ _ (by omega), fup_ne _ _ (by omega), fup_ne _ _ (by omega)]
        exact hp.2.2.2.2.2 i h0 h1
  · refine ⟨-1, M, M, ⟨⟨by decide, Nat.le_of_ble_eq_true rfl⟩, fun K hK => q_L_spool_0 hK x v M ⟨_, _, R_isColour 8 M x, ⟨fun _ => mret_i rfl rfl, fun q => ⟨fun _ => mret_i rfl rfl, fun q2 => br_f (fun q3 => c ⟨Decidable.not_not.mp (fun z => q (b2_f z)), by omega⟩) (mret_i rfl rfl)⟩⟩⟩⟩, ⟨⟨by decide, Nat.le_of_ble_eq_true rfl⟩, fun K hK => ?_⟩, h⟩
    have f25 : K 25 [(1, vi x), (2, vi v)] [vi 0, vr 53] (S0, M) := by
      refine q_M_spool_25 hK x v 0 M ⟨_, _, R_puts 8 _ 0 _ v 20 (fun z => absurd rfl z), ?_⟩
      rw [if_neg (by decide), if_neg (by decide)]
      exact mret_i rfl rfl
    refine q_M_spool_0 hK x v M ⟨_, _, R_mIsColour 7 _ x, ⟨fun _ => f25, fun q => ⟨_, _, R_in 8 _ _ _ _, br_t (b2_f (fun z => c ⟨Decidable.not_not.mp (fun z => q (b2_f z)), z⟩)) f25⟩⟩⟩
theorem P_amend {M : mMem} (h : Inv M) (l x v : Int) : PairI 54 143 [vi l, vi x, vi v] M := by
  have hc := h.1
  have hp := Pg0_of h.2.1
  have n0 : 0 ≤ M 1 5 ∧ M 1 5 ≤ 5 := hc.2.1
  have p3 : M 54 39 = M 1 5 := hp.2.2.1
  have hl := hc.2.2.1
  by_cases c : (0 ≤ l ∧ l < M 1 5) ∧ ((x = 0 ∧ 0 ≤ v ∧ v ≤ 3) ∨ (x = 1 ∧ 1 ≤ v ∧ v ≤ 3) ∨ (x = 2 ∧ 1 ≤ v ∧ v ≤ 3) ∨ (x = 3 ∧ 1 ≤ v ∧ v ≤ 9))
  · have i0 : w32 (w32 (l * 4) + x) = 4 * l + x := by
      rw [w32_s (z := l * 4) (by omega) (by omega), w32_s (by omega) (by omega)]
      omega
    have i1 : w32 (w32 (40 + w32 (5 * x)) + l) = 40 + 5 * x + l := by rw [w32_s (z := 5 * x) (by omega) (by omega), w32_s (z := 40 + 5 * x) (by omega) (by omega), w32_s (by omega) (by omega)]
    have g4 : M 54 (40 + 5 * x + l) = M 4 (4 * l + x) := hp.2.2.2.1 l x c.1.1 c.1.2 (by omega) (by omega)
    have r4 : 0 ≤ M 4 (4 * l + x) ∧ M 4 (4 * l + x) ≤ 9 := by
      have g : (0 ≤ M 4 (4 * l) ∧ M 4 (4 * l) ≤ 3) ∧ (1 ≤ M 4 (4 * l + 1) ∧ M 4 (4 * l + 1) ≤ 3) ∧ (1 ≤ M 4 (4 * l + 2) ∧ M 4 (4 * l + 2) ≤ 3) ∧ 1 ≤ M 4 (4 * l + 3) ∧ M 4 (4 * l + 3) ≤ 9 := hl l c.1.1 c.1.2
      rcases c.2 with z | z | z | z
      · rw [z.1, Int.add_zero]
        omega
      · rw [z.1]
        omega
      · rw [z.1]
        omega
      · rw [z.1]
        omega
    have a1 : mR3 10 54 [vr 0, vi l, vi x, vi v] (S0, M) (some (vi (M 4 (4 * l + x))), (S0, mupd M 4 (4 * l + x) v)) := by
      refine ⟨⟨by decide, Nat.le_of_ble_eq_true rfl⟩, fun K hK => q_L_amend_0 hK l x v M ⟨_, _, R_isLaw 8 M l, br_f (fun z => b2_0.mp z c.1) ⟨_, _, R_isLawPart 7 M x v, br_t (b2_n0.mpr c.2) ?_⟩⟩⟩
      rw [i0]
      exact mIn_i (by omega) (by omega) (mIn_i (by omega) (by omega) (mret_i rfl rfl))
    have e54 : mupd M 4 (4 * l + x) v 54 = M 54 := mupd_ne _ _ _ (by decide)
    have e : ∀ k : Nat, k ≠ 4 → k ≠ 54 → mupd (mupd M 4 (4 * l + x) v) 54 (40 + 5 * x + l) v k = M k := fun k h1 h2 => by rw [mupd_ne _ _ _ h2, mupd_ne _ _ _ h1]
    have f4 : mupd (mupd M 4 (4 * l + x) v) 54 (40 + 5 * x + l) v 4 = fup (M 4) (4 * l + x) v := by rw [mupd_ne _ _ _ (by decide), mupd_at]
    have f54 : mupd (mupd M 4 (4 * l + x) v) 54 (40 + 5 * x + l) v 54 = fup (M 54) (40 + 5 * x + l) v := by rw [mupd_at, e54]
    generalize mupd M 4 (4 * l + x) v = m0 at a1 e54 e f4 f54
    have a2 : mR3 10 143 [vr 53, vi l, vi x, vi v] (S0, m0) (some (vi (M 4 (4 * l + x))), (S0, mupd m0 54 (40 + 5 * x + l) v)) := by
      refine ⟨⟨by decide, Nat.le_of_ble_eq_true rfl⟩, fun K hK => ?_⟩
      have k70 : K 70 [(1, vi l), (2, vi x), (3, vi v)] [vi 1, vr 53] (S0, m0) := by
        refine q_M_amend_70 hK l x v 1 m0 ?_
        rw [i1]
        refine ⟨_, _, R_puts 8 m0 1 (40 + 5 * x + l) v 0 (fun _ => ⟨by omega, by omega⟩), ?_⟩
        rw [if_pos (by decide), if_pos (by decide), e54, g4, Int.add_zero, Int.sub_zero, w32_s (z := M 4 (4 * l + x)) (by omega) (by omega), w32_s (by omega) (by omega)]
        exact mret_i rfl rfl
      have k37 : K 37 [(0, vr 53), (1, vi l), (2, vi x), (3, vi v)] [vi 1] (S0, m0) := by
        refine q_M_amend_37 hK l x v 1 m0 ⟨_, _, R_mIsLaw 7 m0 l (by rw [e54, p3]; exact n0), br_f (fun z => b2_0.mp z (by rw [e54, p3]; exact c.1)) ⟨_, _, R_in 8 _ _ _ _, br_f (fun z => b2_0.mp z (by omega)) (br_f (by decide) k70)⟩⟩
      refine q_M_amend_0 hK l x v m0 ⟨fun q => ⟨fun q2 => ⟨_, _, R_mIsColour 7 m0 v, ?_⟩, fun q2 => ⟨_, _, R_in 8 _ _ _ _, ?_⟩⟩, fun q => ⟨_, _, R_in 8 _ _ _ _, ?_⟩⟩
      · rw [b2_t (by omega)]
        exact k37
      · rw [b2_t (by omega)]
        exact k37
      · rw [b2_t (by omega)]
        exact k37
    refine ⟨_, _, _, a1, a2, ?_⟩
    generalize mupd m0 54 (40 + 5 * x + l) v = m at e f4 f54
    refine Inv_c1 h (Cht_mk hc (e 2 (by decide) (by decide)) (e 7 (by decide) (by decide)) (e 8 (by decide) (by decide)) ?_ ?_ ?_ ?_ ?_) (Pg_of0 ?_) (fun k h1 h2 => e k (by omega) h2) (fun i h0 h1 => by rw [f54, fup_ne _ _ (by omega)])
    · rw [e 1 (by decide) (by decide)]
      exact hc.2.1
    · show lawOK (m 4) (m 1 5)
      rw [e 1 (by decide) (by decide), f4]
      intro l' h0 h1
      have g : (0 ≤ M 4 (4 * l') ∧ M 4 (4 * l') ≤ 3) ∧ (1 ≤ M 4 (4 * l' + 1) ∧ M 4 (4 * l' + 1) ≤ 3) ∧ (1 ≤ M 4 (4 * l' + 2) ∧ M 4 (4 * l' + 2) ≤ 3) ∧ 1 ≤ M 4 (4 * l' + 3) ∧ M 4 (4 * l' + 3) ≤ 9 := hl l' h0 h1
      unfold fup
      refine ⟨?_, ?_, ?_, ?_⟩
      all_goals (split <;> omega)
    · rw [e 1 (by decide) (by decide)]
      exact hc.2.2.2.1
    · rw [e 1 (by decide) (by decide), e (1 + 4) (by decide) (by decide), e (1 + 5) (by decide) (by decide)]
      exact hc.2.2.2.2.1
    · rw [e (1 + 2) (by decide) (by decide)]
      exact hc.2.2.2.2.2
    · unfold Pg0
      rw [f54, f4, e 1 (by decide) (by decide), e 2 (by decide) (by decide), e 3 (by decide) (by decide), e 5 (by decide) (by decide), e 6 (by decide) (by decide)]
      refine ⟨fun i h0 h1 => ?_, fun i h0 h1 => ?_, ?_, fun l' y h0 h1 h2 h3 => ?_, ?_, fun i h0 h1 => ?_⟩
      · rw [fup_ne _ _ (by omega)]
        exact hp.1 i h0 h1
      · rw [fup_ne _ _ (by omega)]
        exact hp.2.1 i h0 h1
      · rw [fup_ne _ _ (by omega)]
        exact hp.2.2.1
      · have g := hp.2.2.2.1 l' y h0 h1 h2 h3
        unfold fup
        split <;> split <;> omega
      · rw [fup_ne _ _ (by omega)]
        exact hp.2.2.2.2.1
      · rw [fup_ne _ _ (by omega), fup_ne _ _ (by omega), fup_ne _ _ (by omega)]
        exact hp.2.2.2.2.2 i h0 h1
  · refine ⟨-1, M, M, ⟨⟨by decide, Nat.le_of_ble_eq_true rfl⟩, fun K hK => q_L_amend_0 hK l x v M ⟨_, _, R_isLaw 8 M l, ⟨fun _ => mret_i rfl rfl, fun q => ⟨_, _, R_isLawPart 7 M x v, br_f (fun q2 => c ⟨Decidable.not_not.mp (fun z => q (b2_f z)), b2_n0.mp q2⟩) (mret_i rfl rfl)⟩⟩⟩⟩, ⟨⟨by decide, Nat.le_of_ble_eq_true rfl⟩, fun K hK => ?_⟩, h⟩
    have f70 : K 70 [(1, vi l), (2, vi x), (3, vi v)] [vi 0, vr 53] (S0, M) := by
      refine q_M_amend_70 hK l x v 0 M ⟨_, _, R_puts 8 M 0 _ v 0 (fun z => absurd rfl z), ?_⟩
      rw [if_neg (by decide), if_neg (by decide)]
      exact mret_i rfl rfl
    have k37 : ∀ s : Int, (s = 0 ∨ ¬ ((0 ≤ l ∧ l < M 1 5) ∧ 0 ≤ x ∧ x ≤ 3)) → K 37 [(0, vr 53), (1, vi l), (2, vi x), (3, vi v)] [vi s] (S0, M) := by
      intro s hs
      refine q_M_amend_37 hK l x v s M ⟨_, _, R_mIsLaw 7 M l (by rw [p3]; exact n0), ⟨fun _ => f70, fun q => ⟨_, _, R_in 8 _ _ _ _, ⟨fun _ => f70, fun q2 => br_t ?_ f70⟩⟩⟩⟩
      have q := b2_n0.mp q
      have q2 := b2_n0.mp q2
      rw [p3] at q
      rcases hs with hs | hs
      · exact hs
      · exact absurd ⟨q, q2⟩ hs
    refine q_M_amend_0 hK l x v M ⟨fun q => ⟨fun q2 => ⟨_, _, R_mIsColour 7 M v, k37 _ ?_⟩, fun q2 => ⟨_, _, R_in 8 _ _ _ _, k37 _ ?_⟩⟩, fun q => ⟨_, _, R_in 8 _ _ _ _, k37 _ ?_⟩⟩
    · rw [b2_0]
      omega
    · rw [b2_0]
      omega
    · rw [b2_0]
      omega
