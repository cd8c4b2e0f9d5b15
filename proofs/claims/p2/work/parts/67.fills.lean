/-! PURE PROOFS 45: fills -/
def HoL (M m : mMem) (H : Int → Int) (cn : Nat) : Prop := FrL m M ∧ (∃ g, TrC m M g (M 3) ∧ ∀ i : Int, 0 ≤ i → i < 36 → (∀ j : Nat, j < cn → i ≠ H j) → g i = M 2 i) ∧ m 0 14 = cn ∧ ∀ i : Int, 0 ≤ i → i < cn → m 42 i = H i
def HoM (M m0 m : mMem) (H : Int → Int) (cn : Nat) : Prop := FrM m m0 ∧ (∀ i : Int, 0 ≤ i → i < 85 → m 54 i = M 54 i) ∧ m 53 24 = cn ∧ (∀ i : Int, 0 ≤ i → i < cn → m 61 i = H i) ∧ m 53 22 = M 53 22 ∧ m 60 = M 60
def HoOK (M : mMem) (H : Int → Int) (cn ns : Nat) : Prop := cn ≤ 4 ∧ (∀ i : Int, 0 ≤ i → i < cn → 0 ≤ H i ∧ H i < 36) ∧ M 0 13 = ns
def fiN (M : mMem) (H : Int → Int) (cn : Nat) (q : Int) : Int → Int := fiF (M 2) H q cn
def ftN (M : mMem) (H : Int → Int) (cn ns : Nat) (q : Int) : Int := seB M (fiF (M 2) H q cn) ns
theorem ftN_01 (M : mMem) (H : Int → Int) (cn ns : Nat) (q : Int) : ftN M H cn ns q = 0 ∨ ftN M H cn ns q = 1 := seB_01 M _ ns
theorem L_fit2 (d : Nat) {M m : mMem} {H : Int → Int} {cn ns : Nat} (hc : Cht M 1) (hs : SeI M) (ok : HoOK M H cn ns) (h : HoL M m H cn) (q : Int) : mI3 (d + 3) 111 [vr 0, vi q] m (fun v m' => v = ftN M H cn ns q ∧ TrC m' M (fiN M H cn q) (M 3) ∧ HoL M m' H cn ∧ ∀ k : Nat, (k < 9 ∨ 17 ≤ k) → m' k = m k) := by
  obtain ⟨h1, ⟨g, h2, h3⟩, h4, h5⟩ := h
  obtain ⟨v, m', ⟨p1, p2, p3⟩, r⟩ := L_fits d hc ok.1 ok.2.1 h1 h2 h3 h4 h5 hs ok.2.2 q
  refine ⟨v, m', ⟨p1, p2, ⟨FrL_row h1 (fun k a _ _ _ _ _ => p3 k a), ⟨_, p2, fun i a b w => fiF_out _ _ _ _ _ w⟩, ?_, fun i a b => ?_⟩, p3⟩, r⟩
  · rw [p3 0 (by omega), h4]
  · rw [p3 42 (by omega), h5 i a b]
theorem M_fit2 (d : Nat) {M m0 m : mMem} {H : Int → Int} {cn ns : Nat} (hg : Pg M 1 0) (hc : Cht M 1) (hs : SeI M) (ok : HoOK M H cn ns) (h : HoM M m0 m H cn) (q : Int) : mI3 (d + 3) 176 [vr 53, vi q] m (fun v m' => v = ftN M H cn ns q ∧ PgC m' M 340 (fiN M H cn q) (M 3) ∧ HoM M m0 m' H cn ∧ ∀ k : Nat, k ≠ 54 → m' k = m k) := by
  obtain ⟨h1, h2, h3, h4, h5, h6⟩ := h
  obtain ⟨v, m', ⟨p1, p2, p3, p4⟩, r⟩ := M_fit d hg hc ok.1 ok.2.1 h2 h3 h4 hs ok.2.2 h5 h6 q
  refine ⟨v, m', ⟨p1, p2, ⟨FrM_trans p4 h1, fun i a b => ?_, ?_, fun i a b => ?_, ?_, ?_⟩, p3⟩, r⟩
  · rw [p4.2.2.2.2.2 i a (by omega), h2 i a b]
  · rw [p3 53 (by decide), h3]
  · rw [p3 61 (by decide), h4 i a b]
  · rw [p3 53 (by decide), h5]
  · rw [p3 60 (by decide), h6]
theorem fc_v : ∀ c : Nat, c < 5 → jshl 1 (w32 (2 * (c : Int))) = ((4 ^ c : Nat) : Int) := by decide +kernel
theorem fc_b : ∀ c : Nat, c < 5 → 4 ^ c ≤ 256 := by decide +kernel
theorem L_fc (d : Nat) {m : mMem} {cn : Nat} (h : m 0 14 = cn) (h4 : cn ≤ 4) : mR3 (d + 1) 110 [vr 0] (S0, m) (some (vi ((4 ^ cn : Nat) : Int)), (S0, m)) := by
  refine ⟨⟨by decide, Nat.le_of_ble_eq_true rfl⟩, fun K hK => q_L_fillCount_0 hK m ?_⟩
  rw [h, fc_v cn (by omega)]
  exact mret_i rfl rfl
theorem M_fc (d : Nat) {m : mMem} {cn : Nat} (h : m 53 24 = cn) (h4 : cn ≤ 4) : mR3 (d + 1) 175 [vr 53] (S0, m) (some (vi ((4 ^ cn : Nat) : Int)), (S0, m)) := by
  refine ⟨⟨by decide, Nat.le_of_ble_eq_true rfl⟩, fun K hK => q_M_fillMany_0 hK m ?_⟩
  rw [h, fc_v cn (by omega)]
  exact mret_i rfl rfl
theorem ho_get {M : mMem} (hs : SeI M) : (4 < cO (M 2) 4 36) ∨ ∃ cn ns : Nat, cO (M 2) 4 36 = cn ∧ HoOK M (hoF (M 2) 36) cn ns := by
  by_cases q : 4 < cO (M 2) 4 36
  · exact Or.inl q
  · have r := cO_rng (M 2) 4 36
    have n6 : 0 ≤ M 0 13 ∧ M 0 13 ≤ 6 := hs.1
    have e : cO (M 2) 4 36 = ((cO (M 2) 4 36).toNat : Int) := by omega
    refine Or.inr ⟨(cO (M 2) 4 36).toNat, (M 0 13).toNat, e, by omega, fun i a b => ?_, by omega⟩
    have g := hoF_rng (M 2) 36 i a (by omega)
    omega
theorem L_ho (d : Nat) {M m : mMem} {cn : Nat} (hc : Cht M 1) (hm : FrL m M) (hcn : cO (M 2) 4 36 = cn) (h4 : cn ≤ 4) : mI3 (d + 2) 109 [vr 0] m (fun v m' => v = 1 ∧ HoL M m' (hoF (M 2) 36) cn) := by
  obtain ⟨v, m', ⟨p1, p2⟩, r⟩ := L_holes d hc hm
  rw [hcn] at p2
  rcases p2 with ⟨a, _⟩ | ⟨_, e, t, f, g⟩
  · exact absurd a (by omega)
  · exact ⟨v, m', ⟨e, p1, ⟨M 2, t, fun i _ _ _ => rfl⟩, f, g⟩, r⟩
theorem L_ho0 (d : Nat) {M m : mMem} (hc : Cht M 1) (hm : FrL m M) (h : 4 < cO (M 2) 4 36) : mI3 (d + 2) 109 [vr 0] m (fun v m' => v = 0 ∧ FrL m' M) := by
  obtain ⟨v, m', ⟨p1, p2⟩, r⟩ := L_holes d hc hm
  rcases p2 with ⟨_, a⟩ | ⟨a, _⟩
  · exact ⟨v, m', ⟨a, p1⟩, r⟩
  · exact absurd a (by omega)
theorem M_ho (d : Nat) {M m : mMem} {cn : Nat} (hg : Pg M 1 0) (m54 : ∀ i : Int, 0 ≤ i → i < 85 → m 54 i = M 54 i) (m22 : m 53 22 = M 53 22) (m60 : m 60 = M 60) (hcn : cO (M 2) 4 36 = cn) (h4 : cn ≤ 4) : mI3 (d + 1) 174 [vr 53] m (fun v m' => v = 0 ∧ HoM M m m' (hoF (M 2) 36) cn) := by
  obtain ⟨v, m', ⟨p1, p2, p3, p4, p5⟩, r⟩ := M_holes d hg m54
  rw [hcn] at p3 p4 p5
  refine ⟨v, m', ⟨?_, p1, fun i a b => ?_, p3, p4, ?_, ?_⟩, r⟩
  · rw [p5, b2_f (by omega)]
  · rw [p2, m54 i a b]
  · rw [p1.2.2.2.1, m22]
  · rw [p1.1 60 (by decide) (by decide) (by decide) (by decide) (by decide), m60]
theorem M_ho0 (d : Nat) {M m : mMem} (hg : Pg M 1 0) (m54 : ∀ i : Int, 0 ≤ i → i < 85 → m 54 i = M 54 i) (h : 4 < cO (M 2) 4 36) : mI3 (d + 1) 174 [vr 53] m (fun v m' => v = 1 ∧ FrM m' m ∧ m' 54 = m 54) := by
  obtain ⟨v, m', ⟨p1, p2, p3, p4, p5⟩, r⟩ := M_holes d hg m54
  exact ⟨v, m', ⟨by rw [p5, b2_t h], p1, p2⟩, r⟩
def flS (M : mMem) (H : Int → Int) (cn ns : Nat) (n : Nat) : Int := sm (fun q => ftN M H cn ns (q : Nat)) n
theorem flS_s (M : mMem) (H : Int → Int) (cn ns n : Nat) : flS M H cn ns (n + 1) = flS M H cn ns n + ftN M H cn ns (n : Nat) := rfl
theorem flS_rng (M : mMem) (H : Int → Int) (cn ns n : Nat) : 0 ≤ flS M H cn ns n ∧ flS M H cn ns n ≤ n := sm_rng (fun k => by
  have h := ftN_01 M H cn ns (k : Nat)
  omega) n
theorem M_fills (d : Nat) {M m0 : mMem} {cn ns : Nat} (hg : Pg M 1 0) (hc : Cht M 1) (hs : SeI M) (ok : HoOK M (hoF (M 2) 36) cn ns) (hcn : cO (M 2) 4 36 = cn) (m54 : ∀ i : Int, 0 ≤ i → i < 85 → m0 54 i = M 54 i) (m22 : m0 53 22 = M 53 22) (m60 : m0 60 = M 60) : mI3 (d + 4) 177 [vr 53] m0 (fun v m' => v = flS M (hoF (M 2) 36) cn ns (4 ^ cn) ∧ HoM M m0 m' (hoF (M 2) 36) cn) := by
  have nb := fc_b cn (by have := ok.1; omega)
  refine mI3_i ⟨by decide, Nat.le_of_ble_eq_true rfl⟩ (fun K hK => q_M_fills_0 hK m0 (cI (M_ho (d + 2) hg m54 m22 m60 hcn ok.1) (fun v m1 p => ?_)))
  refine br_t p.1 ?_
  have loop : ∀ (j i : Nat), i + j = 4 ^ cn → ∀ m' : mMem, HoM M m0 m' (hoF (M 2) 36) cn → K 14 [(0, vr 53), (1, vi (flS M (hoF (M 2) 36) cn ns i)), (2, vi (i : Int))] [] (S0, m') := by
    intro j
    induction j with
    | zero =>
      intro i hi m' h1
      rw [show i = 4 ^ cn by omega]
      exact q_M_fills_14 hK _ _ m' ⟨_, _, M_fc (d + 2) h1.2.2.1 ok.1, br_t (Int.le_refl _) (rI_i ⟨rfl, h1⟩)⟩
    | succ j ih =>
      intro i hi m' h1
      have h4 := ih (i + 1) (by omega)
      have r := flS_rng M (hoF (M 2) 36) cn ns i
      rw [flS_s] at h4
      have ew : w32 ((i : Int) + 1) = ((i + 1 : Nat) : Int) := by rw [w32_s (by omega) (by omega)]; omega
      have lt : ¬ ((4 ^ cn : Nat) : Int) ≤ (i : Int) := by omega
      generalize flS M (hoF (M 2) 36) cn ns i = s at h4 r
      have w0 : w32 (s + 0) = s := by rw [w32_s (by omega) (by omega), Int.add_zero]
      have w1 : w32 (s + 1) = s + 1 := w32_s (by omega) (by omega)
      refine q_M_fills_14 hK _ _ m' ⟨_, _, M_fc (d + 2) h1.2.2.1 ok.1, br_f lt (cI (M_fit2 d hg hc hs ok h1 (i : Int)) (fun v m2 p => ?_))⟩
      obtain ⟨p1, p2, p3, _⟩ := p
      have b := ftN_01 M (hoF (M 2) 36) cn ns (i : Int)
      rw [ew, w0, w1]
      refine ⟨fun q => ?_, fun q => ?_⟩
      · rw [← p1, q, Int.add_zero] at h4
        exact h4 m2 p3
      · rw [← p1] at b h4
        rw [show v = 1 by omega] at h4
        exact h4 m2 p3
  exact loop (4 ^ cn) 0 (by omega) m1 p.2
theorem P_fills {M : mMem} (h : Inv M) : PairI 75 177 [] M := by
  have hc := h.1
  have hs := h.2.2.2.2.2.1
  rcases ho_get hs with big | ⟨cn, ns, hcn, ok⟩
  · refine ask_pair (V := -2) h ?_ (fun m hm => ?_)
    · exact mI3_i ⟨by decide, Nat.le_of_ble_eq_true rfl⟩ (fun K hK => q_L_fills_0 hK M (cI (L_ho0 7 hc (FrL_refl M) big) (fun v m1 p => br_f (fun q => q p.1) (rI_i ⟨rfl, p.2⟩))))
    · exact mI3_i ⟨by decide, Nat.le_of_ble_eq_true rfl⟩ (fun K hK => q_M_fills_0 hK m (cI (M_ho0 8 h.2.1 (fun i a b => by rw [(FrL_lo hm).2]) big) (fun v m1 p => br_f (by rw [p.1]; decide) (rI_i ⟨rfl, p.2.1⟩))))
  · have nb := fc_b cn (by have := ok.1; omega)
    refine ask_pair (V := flS M (hoF (M 2) 36) cn ns (4 ^ cn)) h ?_ (fun m hm => ?_)
    · refine mI3_i ⟨by decide, Nat.le_of_ble_eq_true rfl⟩ (fun K hK => q_L_fills_0 hK M (cI (L_ho 7 hc (FrL_refl M) hcn ok.1) (fun v m1 p => ?_)))
      have loop : ∀ (j i : Nat), i + j = 4 ^ cn → ∀ m' : mMem, HoL M m' (hoF (M 2) 36) cn → K 19 [(0, vr 0), (1, vi (flS M (hoF (M 2) 36) cn ns i)), (2, vi ((4 ^ cn : Nat) : Int)), (3, vi (i : Int))] [] (S0, m') := by
        intro j
        induction j with
        | zero =>
          intro i hi m' h1
          rw [show i = 4 ^ cn by omega]
          exact q_L_fills_19 hK _ _ _ m' (br_t (Int.le_refl _) (rI_i ⟨rfl, h1.1⟩))
        | succ j ih =>
          intro i hi m' h1
          have h4 := ih (i + 1) (by omega)
          have r := flS_rng M (hoF (M 2) 36) cn ns i
          rw [flS_s] at h4
          have ew : w32 ((i : Int) + 1) = ((i + 1 : Nat) : Int) := by rw [w32_s (by omega) (by omega)]; omega
          have lt : ¬ ((4 ^ cn : Nat) : Int) ≤ (i : Int) := by omega
          generalize flS M (hoF (M 2) 36) cn ns i = s at h4 r
          have w1 : w32 (s + 1) = s + 1 := w32_s (by omega) (by omega)
          refine q_L_fills_19 hK _ _ _ m' (br_f lt (cI (L_fit2 6 hc hs ok h1 (i : Int)) (fun v m2 p => ?_)))
          obtain ⟨p1, p2, p3, _⟩ := p
          have b := ftN_01 M (hoF (M 2) 36) cn ns (i : Int)
          rw [ew, w1]
          refine ⟨fun q => ?_, fun q => ?_⟩
          · rw [← p1, q, Int.add_zero] at h4
            exact h4 m2 p3
          · rw [← p1] at b h4
            rw [show v = 1 by omega] at h4
            exact h4 m2 p3
      exact br_t (by rw [p.1]; decide) ⟨_, _, L_fc 8 p.2.2.2.1 ok.1, loop (4 ^ cn) 0 (by omega) m1 p.2⟩
    · obtain ⟨v, m', ⟨p1, p2⟩, r⟩ := M_fills 6 h.2.1 hc hs ok hcn (m0 := m) (fun i a b => by rw [(FrL_lo hm).2]) (by rw [hm.1 53 (by omega)]) (hm.1 60 (by omega))
      exact ⟨v, m', ⟨p1, p2.1⟩, r⟩
