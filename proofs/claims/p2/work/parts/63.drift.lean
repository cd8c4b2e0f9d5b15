/-! PURE PROOFS 41: drift -/
def drN (s : Int) : Int := w32 (w32 (s * 1103515245) + 12345)
def drG (s : Int) : Int := s / 65536 % 32768
def dr1 (r : (Int → Int) × (Int → Int)) (g : Int) : (Int → Int) × (Int → Int) := if r.1 (g % 36) = 4 then (fup r.1 (g % 36) 0, r.2) else if r.1 (g % 36) ≠ 0 then (fup r.1 (g % 36) 4, r.2) else if 0 < r.2 (1 + g / 64 % 3) then (fup r.1 (g % 36) (1 + g / 64 % 3), fup r.2 (1 + g / 64 % 3) (r.2 (1 + g / 64 % 3) - 1)) else r
def drS (M : mMem) (s : Int) : Nat → Int × (Int → Int) × (Int → Int)
  | 0 => (s, M 2, M 3)
  | i + 1 => (drN (drS M s i).1, dr1 (drS M s i).2 (drG (drN (drS M s i).1)))
theorem drS_s (M : mMem) (s : Int) (i : Nat) : drS M s (i + 1) = (drN (drS M s i).1, dr1 (drS M s i).2 (drG (drN (drS M s i).1))) := rfl
theorem L_once (d : Nat) {m M : mMem} {r : (Int → Int) × (Int → Int)} (h : TrC m M r.1 r.2) {g : Int} (hg : 0 ≤ g ∧ g < 32768) : mN3 (d + 4) 103 [vr 0, vi g] m (fun m' => TrC m' M (dr1 r g).1 (dr1 r g).2 ∧ ∀ k : Nat, (k < 9 ∨ 17 ≤ k) → m' k = m k) := by
  have j1 : jrem g 36 = g % 36 := jrem_nn hg.1
  have j2 : w32 (1 + jrem (jdiv g 64) 3) = 1 + g / 64 % 3 := by rw [jdiv_nn hg.1 (by omega) (by omega), jrem_nn (by omega), w32_s (by omega) (by omega)]
  have kb : 0 ≤ g % 36 ∧ g % 36 < 36 := by omega
  have cb : 1 ≤ 1 + g / 64 % 3 ∧ 1 + g / 64 % 3 ≤ 3 := by omega
  have e1 : m 10 (g % 36) = r.1 (g % 36) := h.2.1 _ kb.1 kb.2
  refine mN3_i ⟨by decide, Nat.le_of_ble_eq_true rfl⟩ (fun K hK => q_L_driftOnce_0 hK g m ?_)
  rw [j1, j2, e1]
  unfold dr1
  generalize g % 36 = k at kb e1 ⊢
  generalize 1 + g / 64 % 3 = c at cb ⊢
  refine mIn_i kb.1 (by omega) ⟨fun q => ⟨fun q2 => ⟨_, _, T_can (d + 2) h kb cb, fun q3 => ?_, fun q3 => ⟨_, R_take d m 9 (by omega) k c kb cb h.1.1.1, ?_⟩⟩, fun q2 => ⟨_, R_put (d + 1) m 9 (by omega) k 4 kb (by omega) h.1.1.1, ?_⟩⟩, fun q => ⟨_, R_put (d + 1) m 9 (by omega) k 0 kb (by omega) h.1.1.1, ?_⟩⟩
  · rw [if_neg q, if_neg (fun z => z q2), if_neg (fun z => b2_0.mp q3 ⟨q2, z⟩)]
    exact rN_i ⟨h, fun _ _ => rfl⟩
  · rw [if_neg q, if_neg (fun z => z q2), if_pos (b2_n0.mp q3).2]
    exact rN_i ⟨T_take h kb cb (b2_n0.mp q3).2, fun x hx => takeM_ne m 9 k c (by omega) (by omega) (by omega) (by omega)⟩
  · rw [if_neg q, if_pos q2]
    exact rN_i ⟨T_put h kb (by omega), fun x hx => put_ne _ _ _ _ (by omega) (by omega) (by omega)⟩
  · rw [if_pos (Decidable.not_not.mp q)]
    exact rN_i ⟨T_put h kb (by omega), fun x hx => put_ne _ _ _ _ (by omega) (by omega) (by omega)⟩
theorem P_drift {M : mMem} (h : Inv M) (s n x : Int) : PairI 79 182 [vi s, vi n, vi x] M := by
  have hc := h.1
  have hp := Pg0_of h.2.1
  have n5 : 0 ≤ M 1 5 ∧ M 1 5 ≤ 5 := hc.2.1
  obtain ⟨k, hk⟩ : ∃ k : Nat, M 1 5 = k := ⟨(M 1 5).toNat, by omega⟩
  have k5 : k ≤ 5 := by omega
  by_cases c : (1 ≤ n ∧ n ≤ 60) ∧ (x = 0 ∨ x = 1)
  · obtain ⟨nn, hn⟩ : ∃ nn : Nat, n = nn := ⟨n.toNat, by omega⟩
    have nb : nn ≤ 60 := by omega
    refine ask_pair (V := if x ≠ 0 then cO (drS M s nn).2.1 4 36 else woS (M 4) (drS M s nn).2.1 k) h ?_ (fun m hm => ?_)
    · refine mI3_i ⟨by decide, Nat.le_of_ble_eq_true rfl⟩ (fun K hK => ?_)
      have loop : ∀ (j i : Nat), i + j = nn → ∀ (m' : mMem) (r : Int × (Int → Int) × (Int → Int)), r = drS M s i → TrC m' M r.2.1 r.2.2 → FrL m' M → K 37 [(0, vr 0), (2, vi n), (3, vi x), (4, vi r.1), (5, vi (i : Int))] [] (S0, m') := by
        intro j
        induction j with
        | zero =>
          intro i hi m' r h0 h1 h2
          rw [show i = nn by omega] at h0 ⊢
          refine q_L_drift_37 hK _ _ _ _ m' (br_t (by rw [hn]; exact Int.le_refl _) ⟨fun q => ⟨_, _, T_cells 8 h1 4, rI_i ⟨?_, h2⟩⟩, fun q => ⟨_, _, T_worth 6 h1 hk k5, rI_i ⟨?_, h2⟩⟩⟩)
          · rw [if_pos q, h0]
          · rw [if_neg q, h0]
        | succ j ih =>
          intro i hi m' r h0 h1 h2
          have h4 := ih (i + 1) (by omega)
          rw [drS_s, ← h0] at h4
          have ew : w32 ((i : Int) + 1) = ((i + 1 : Nat) : Int) := by rw [w32_s (by omega) (by omega)]; omega
          have lt : ¬ n ≤ (i : Int) := by omega
          refine q_L_drift_37 hK _ _ _ _ m' (br_f lt ?_)
          rw [ew, ush_16]
          show ∃ m5, mR3 9 103 [vr 0, vi (drG (drN r.1))] (S0, m') (none, (S0, m5)) ∧ K 37 [(0, vr 0), (2, vi n), (3, vi x), (4, vi (drN r.1)), (5, vi ((i + 1 : Nat) : Int))] [] (S0, m5)
          have gb : 0 ≤ drG (drN r.1) ∧ drG (drN r.1) < 32768 := by
            unfold drG
            omega
          refine cN (L_once 5 h1 gb) (fun m2 p => ?_)
          exact h4 m2 _ rfl p.1 (FrL_row h2 (fun k a _ _ _ _ _ => p.2 k a))
      have t0 := T_copy (m := M) hc (fun _ _ _ => rfl)
      exact q_L_drift_0 hK s n x M (br_f (by omega) (br_f (by omega) ⟨_, _, R_isPart 8 M x, br_t (b2_n0.mpr c.2) ⟨_, R_copyFrom 8 M 9 1 (by unfold cpP; omega), loop nn 0 (by omega) _ _ rfl t0 (FrL_row (FrL_refl M) (fun k a _ _ _ _ _ => cpy_ne M (by omega)))⟩⟩))
    · refine mI3_i ⟨by decide, Nat.le_of_ble_eq_true rfl⟩ (fun K hK => ?_)
      have m54 := (FrL_lo hm).2
      have loop : ∀ (j i : Nat), i + j = nn → ∀ (m' : mMem) (r : Int × (Int → Int) × (Int → Int)), r = drS M s i → PgC m' M 340 r.2.1 r.2.2 → FrM m' m → K 38 [(0, vr 53), (2, vi n), (3, vi x), (4, vi r.1), (5, vi (i : Int))] [] (S0, m') := by
        intro j
        induction j with
        | zero =>
          intro i hi m' r h0 h1 h2
          rw [show i = nn by omega] at h0 ⊢
          have g := R_holesOn 8 m' 340 (by omega)
          have g2 : cO (pg m' 340) 4 36 = cO r.2.1 4 36 := cO_cong h1.1
          rw [g2] at g
          refine q_M_drift_38 hK _ _ _ _ m' (br_t (by rw [hn]; exact Int.le_refl _) ⟨fun q => ⟨_, _, g, rI_i ⟨?_, h2⟩⟩, fun q => ⟨_, _, G_worth 6 h1 (by omega) hc hk k5, rI_i ⟨?_, h2⟩⟩⟩)
          · rw [if_pos q, h0]
          · rw [if_neg q, h0]
        | succ j ih =>
          intro i hi m' r h0 h1 h2
          have h4 := ih (i + 1) (by omega)
          rw [drS_s, ← h0] at h4
          have ew : w32 ((i : Int) + 1) = ((i + 1 : Nat) : Int) := by rw [w32_s (by omega) (by omega)]; omega
          have lt : ¬ n ≤ (i : Int) := by omega
          refine q_M_drift_38 hK _ _ _ _ m' (br_f lt ?_)
          rw [sh_16 (w32_in _)]
          show K 66 [(0, vr 53), (2, vi n), (3, vi x), (4, vi (drN r.1)), (5, vi (i : Int)), (6, vi (drG (drN r.1)))] [] (S0, m')
          have gb : 0 ≤ drG (drN r.1) ∧ drG (drN r.1) < 32768 := by
            unfold drG
            omega
          generalize drG (drN r.1) = g at gb h4 ⊢
          have j1 : jrem g 36 = g % 36 := jrem_nn gb.1
          have j2 : w32 (1 + jrem (jdiv g 64) 3) = 1 + g / 64 % 3 := by rw [jdiv_nn gb.1 (by omega) (by omega), jrem_nn (by omega), w32_s (by omega) (by omega)]
          have kb : 0 ≤ g % 36 ∧ g % 36 < 36 := by omega
          have cb : 1 ≤ 1 + g / 64 % 3 ∧ 1 + g / 64 % 3 ≤ 3 := by omega
          refine q_M_drift_66 hK _ _ _ _ _ m' ?_
          rw [j1]
          unfold dr1 at h4
          have k86 := fun q7 q8 => q_M_drift_86 hK n x (drN r.1) (i : Int) g q7 q8 m'
          rw [j2] at k86
          generalize g % 36 = k at kb h4 ⊢
          generalize 1 + g / 64 % 3 = c at cb h4 k86
          have w1 : w32 (340 + k) = 340 + k := w32_s (by omega) (by omega)
          have mk : m' 54 (340 + k) = r.2.1 k := h1.1 k kb.1 kb.2
          rw [w1, mk]
          refine mIn_i (by omega) (by omega) (k86 _ _ ?_)
          rw [w1, ew]
          refine ⟨fun q => ⟨fun q2 => mIn_i (by omega) (by omega) ?_, fun q2 => mIn_i (by omega) (by omega) ?_⟩, fun q => ⟨_, _, G_stitch 8 h1 (by omega) kb cb, ?_⟩⟩
          · rw [if_neg q2, if_pos q] at h4
            exact h4 _ _ rfl (G_set h1 hc kb) (FrM_set h2 (by omega))
          · rw [if_pos (Decidable.not_not.mp q2)] at h4
            exact h4 _ _ rfl (G_set h1 hc kb) (FrM_set h2 (by omega))
          · have q := Decidable.not_not.mp q
            rw [if_neg (by omega), if_neg (fun z => z q)] at h4
            by_cases y : 0 < r.2.2 c
            · rw [if_pos ⟨q, y⟩]
              rw [if_pos y] at h4
              exact h4 _ _ rfl (G_st h1 hc kb cb y) (FrM_st h2 (by decide) kb.1 (by omega))
            · rw [if_neg (fun z => y z.2)]
              rw [if_neg y] at h4
              exact h4 _ _ rfl h1 h2
      have g := G_copy (m := m) (p := 340) h.2.1 hc (fun a q0 q1 => by rw [m54])
      exact q_M_drift_0 hK s n x m ⟨_, _, R_in 8 _ _ _ _, br_f (fun q => b2_0.mp q (by omega)) ⟨_, _, R_in 8 _ _ _ _, br_t (b2_n0.mpr (by omega)) ⟨_, R_copies 8 m 0 340 (by omega) (by omega) (by omega), loop nn 0 (by omega) _ _ rfl g (FrM_cpy (FrM_refl m) (by decide))⟩⟩⟩
  · refine ⟨-1, M, M, ⟨⟨by decide, Nat.le_of_ble_eq_true rfl⟩, fun K hK => q_L_drift_0 hK s n x M ⟨fun _ => mret_i rfl rfl, fun q => ⟨fun _ => mret_i rfl rfl, fun q1 => ⟨_, _, R_isPart 8 M x, br_f (fun q2 => c ⟨by omega, b2_n0.mp q2⟩) (mret_i rfl rfl)⟩⟩⟩⟩, ⟨⟨by decide, Nat.le_of_ble_eq_true rfl⟩, fun K hK => q_M_drift_0 hK s n x M ⟨_, _, R_in 8 _ _ _ _, ⟨fun _ => mret_i rfl rfl, fun q => ⟨_, _, R_in 8 _ _ _ _, br_f (fun q2 => ?_) (mret_i rfl rfl)⟩⟩⟩⟩, h⟩
    have q := b2_n0.mp q
    have q2 := b2_n0.mp q2
    exact c ⟨q, by omega⟩
