/-! PURE PROOFS 46: shades, span -/
def shS (M : mMem) (H : Int → Int) (cn ns : Nat) (t : Int) : Nat → Int
  | 0 => 0
  | q + 1 => if ftN M H cn ns (q : Nat) = 0 then shS M H cn ns t q else jor (shS M H cn ns t q) (jshl 1 (fiN M H cn (q : Nat) t))
theorem shS_s (M : mMem) (H : Int → Int) (cn ns : Nat) (t : Int) (q : Nat) : shS M H cn ns t (q + 1) = if ftN M H cn ns (q : Nat) = 0 then shS M H cn ns t q else jor (shS M H cn ns t q) (jshl 1 (fiN M H cn (q : Nat) t)) := rfl
theorem shS_in (M : mMem) (H : Int → Int) (cn ns : Nat) (t : Int) : ∀ q : Nat, inR (shS M H cn ns t q)
  | 0 => inR_0
  | q + 1 => by
    rw [shS_s]
    split
    · exact shS_in M H cn ns t q
    · exact jor_in _ _
theorem P_shades {M : mMem} (h : Inv M) (x y : Int) : PairI 76 178 [vi x, vi y] M := by
  have hc := h.1
  have hp := Pg0_of h.2.1
  have hs := h.2.2.2.2.2.1
  by_cases c : 0 ≤ x ∧ x < 6 ∧ 0 ≤ y ∧ y < 6
  · have ht : 0 ≤ 6 * x + y ∧ 6 * x + y < 36 := by omega
    have i1 : w32 (w32 (6 * x) + y) = 6 * x + y := by rw [w32_s (z := 6 * x) (by omega) (by omega), w32_s (by omega) (by omega)]
    have i2 : w32 (w32 (340 + w32 (6 * x)) + y) = 340 + (6 * x + y) := by
      rw [w32_s (z := 6 * x) (by omega) (by omega), w32_s (z := 340 + 6 * x) (by omega) (by omega), w32_s (by omega) (by omega)]
      omega
    have cl := R_isCell 8 M x y
    have pl := R_place 8 M (x := x) (y := y) (by omega) (by omega)
    generalize 6 * x + y = t at ht i1 i2 pl
    have g1 : M 54 t = M 2 t := hp.1 _ ht.1 ht.2
    rcases ho_get hs with big | ⟨cn, ns, hcn, ok⟩
    · refine ask_pair (V := -2) h ?_ (fun m hm => ?_)
      · exact mI3_i ⟨by decide, Nat.le_of_ble_eq_true rfl⟩ (fun K hK => q_L_shades_0 hK x y M ⟨_, _, cl, br_t (b2_n0.mpr c) ⟨_, _, pl, mIn_i ht.1 (by omega) ⟨fun q => rI_i ⟨rfl, FrL_refl M⟩, fun q => cI (L_ho0 7 hc (FrL_refl M) big) (fun v m1 p => br_f (fun q => q p.1) (rI_i ⟨rfl, p.2⟩))⟩⟩⟩)
      · exact mI3_i ⟨by decide, Nat.le_of_ble_eq_true rfl⟩ (fun K hK => q_M_shades_0 hK x y m ⟨_, _, R_mIsCell 7 m x y, br_t (b2_n0.mpr c) (cI (M_ho0 8 h.2.1 (fun i a b => by rw [(FrL_lo hm).2]) big) (fun v m1 p => br_t (by rw [p.1]; decide) (rI_i ⟨rfl, p.2.1⟩)))⟩)
    · have nb := fc_b cn (by have := ok.1; omega)
      by_cases c2 : M 2 t = 4
      · refine ask_pair (V := shS M (hoF (M 2) 36) cn ns t (4 ^ cn)) h ?_ (fun m hm => ?_)
        · refine mI3_i ⟨by decide, Nat.le_of_ble_eq_true rfl⟩ (fun K hK => q_L_shades_0 hK x y M ⟨_, _, cl, br_t (b2_n0.mpr c) ⟨_, _, pl, mIn_i ht.1 (by omega) (br_f (fun q => q c2) (cI (L_ho 7 hc (FrL_refl M) hcn ok.1) (fun v m1 p => ?_)))⟩⟩)
          have loop : ∀ (j i : Nat), i + j = 4 ^ cn → ∀ m' : mMem, HoL M m' (hoF (M 2) 36) cn → K 51 [(0, vr 0), (3, vi t), (4, vi (shS M (hoF (M 2) 36) cn ns t i)), (5, vi ((4 ^ cn : Nat) : Int)), (6, vi (i : Int))] [] (S0, m') := by
            intro j
            induction j with
            | zero =>
              intro i hi m' h1
              rw [show i = 4 ^ cn by omega]
              exact q_L_shades_51 hK _ _ _ _ m' (br_t (Int.le_refl _) (rI_i ⟨rfl, h1.1⟩))
            | succ j ih =>
              intro i hi m' h1
              have h4 := ih (i + 1) (by omega)
              rw [shS_s] at h4
              have ew : w32 ((i : Int) + 1) = ((i + 1 : Nat) : Int) := by rw [w32_s (by omega) (by omega)]; omega
              have lt : ¬ ((4 ^ cn : Nat) : Int) ≤ (i : Int) := by omega
              refine q_L_shades_51 hK _ _ _ _ m' (br_f lt (cI (L_fit2 6 hc hs ok h1 (i : Int)) (fun v m2 p => ?_)))
              obtain ⟨p1, p2, p3, _⟩ := p
              rw [ew]
              have mt : m2 10 t = fiN M (hoF (M 2) 36) cn (i : Int) t := p2.2.1 t ht.1 ht.2
              rw [mt]
              rw [← p1] at h4
              refine ⟨fun q => ?_, fun q => mIn_i ht.1 (by omega) ?_⟩
              · rw [if_pos q] at h4
                exact h4 m2 p3
              · rw [if_neg q] at h4
                exact h4 m2 p3
          exact br_t (by rw [p.1]; decide) ⟨_, _, L_fc 8 p.2.2.2.1 ok.1, loop (4 ^ cn) 0 (by omega) m1 p.2⟩
        · have m54 := (FrL_lo hm).2
          refine mI3_i ⟨by decide, Nat.le_of_ble_eq_true rfl⟩ (fun K hK => q_M_shades_0 hK x y m ⟨_, _, R_mIsCell 7 m x y, br_t (b2_n0.mpr c) (cI (M_ho 8 h.2.1 (fun i a b => by rw [m54]) (by rw [hm.1 53 (by omega)]) (hm.1 60 (by omega)) hcn ok.1) (fun v m1 p => ?_))⟩)
          have loop : ∀ (j i : Nat), i + j = 4 ^ cn → ∀ m' : mMem, HoM M m m' (hoF (M 2) 36) cn → K 40 [(0, vr 53), (1, vi x), (2, vi y), (3, vi (shS M (hoF (M 2) 36) cn ns t i)), (4, vi (i : Int))] [] (S0, m') := by
            intro j
            induction j with
            | zero =>
              intro i hi m' h1
              rw [show i = 4 ^ cn by omega]
              exact q_M_shades_40 hK _ _ _ _ m' ⟨_, _, M_fc 8 h1.2.2.1 ok.1, br_t (Int.le_refl _) (rI_i ⟨rfl, h1.1⟩)⟩
            | succ j ih =>
              intro i hi m' h1
              have h4 := ih (i + 1) (by omega)
              rw [shS_s] at h4
              have ew : w32 ((i : Int) + 1) = ((i + 1 : Nat) : Int) := by rw [w32_s (by omega) (by omega)]; omega
              have lt : ¬ ((4 ^ cn : Nat) : Int) ≤ (i : Int) := by omega
              have j0 := jor_0 (shS_in M (hoF (M 2) 36) cn ns t i)
              refine q_M_shades_40 hK _ _ _ _ m' ⟨_, _, M_fc 8 h1.2.2.1 ok.1, br_f lt (cI (M_fit2 6 h.2.1 hc hs ok h1 (i : Int)) (fun v m2 p => ?_))⟩
              obtain ⟨p1, p2, p3, _⟩ := p
              have mt : m2 54 (340 + t) = fiN M (hoF (M 2) 36) cn (i : Int) t := p2.1 t ht.1 ht.2
              rw [ew, i2, mt, j0]
              rw [← p1] at h4
              refine ⟨fun q => ?_, fun q => mIn_i (by omega) (by omega) ?_⟩
              · rw [if_pos q] at h4
                exact h4 m2 p3
              · rw [if_neg q] at h4
                exact h4 m2 p3
          have m1t : m1 54 t = 4 := by rw [p.2.2.1 t ht.1 (by omega), g1, c2]
          rw [i1, m1t]
          exact br_f (fun q => q p.1) (mIn_i ht.1 (by omega) (br_t rfl (loop (4 ^ cn) 0 (by omega) m1 p.2)))
      · refine ask_pair (V := -2) h ?_ (fun m hm => ?_)
        · exact mI3_i ⟨by decide, Nat.le_of_ble_eq_true rfl⟩ (fun K hK => q_L_shades_0 hK x y M ⟨_, _, cl, br_t (b2_n0.mpr c) ⟨_, _, pl, mIn_i ht.1 (by omega) (br_t c2 (rI_i ⟨rfl, FrL_refl M⟩))⟩⟩)
        · have m54 := (FrL_lo hm).2
          refine mI3_i ⟨by decide, Nat.le_of_ble_eq_true rfl⟩ (fun K hK => q_M_shades_0 hK x y m ⟨_, _, R_mIsCell 7 m x y, br_t (b2_n0.mpr c) (cI (M_ho 8 h.2.1 (fun i a b => by rw [m54]) (by rw [hm.1 53 (by omega)]) (hm.1 60 (by omega)) hcn ok.1) (fun v m1 p => ?_))⟩)
          have m1t : m1 54 t = M 2 t := by rw [p.2.2.1 t ht.1 (by omega), g1]
          rw [i1, m1t]
          exact br_f (fun q => q p.1) (mIn_i ht.1 (by omega) (br_f c2 (rI_i ⟨rfl, p.2.1⟩)))
  · exact ⟨-1, M, M, ⟨⟨by decide, Nat.le_of_ble_eq_true rfl⟩, fun K hK => q_L_shades_0 hK x y M ⟨_, _, R_isCell 8 M x y, br_f (fun q => c (b2_n0.mp q)) (mret_i rfl rfl)⟩⟩, ⟨⟨by decide, Nat.le_of_ble_eq_true rfl⟩, fun K hK => q_M_shades_0 hK x y M ⟨_, _, R_mIsCell 7 M x y, br_f (fun q => c (b2_n0.mp q)) (mret_i rfl rfl)⟩⟩, h⟩
def spL (M : mMem) (H : Int → Int) (cn ns k : Nat) : Nat → Int
  | 0 => -4
  | q + 1 => if ftN M H cn ns (q : Nat) = 0 then spL M H cn ns k q else if spL M H cn ns k q = -4 ∨ woS (M 4) (fiN M H cn (q : Nat)) k < spL M H cn ns k q then woS (M 4) (fiN M H cn (q : Nat)) k else spL M H cn ns k q
def spG (M : mMem) (H : Int → Int) (cn ns k : Nat) : Nat → Int
  | 0 => -4
  | q + 1 => if ftN M H cn ns (q : Nat) = 0 then spG M H cn ns k q else if woS (M 4) (fiN M H cn (q : Nat)) k ≤ spG M H cn ns k q then spG M H cn ns k q else woS (M 4) (fiN M H cn (q : Nat)) k
theorem spL_s (M : mMem) (H : Int → Int) (cn ns k q : Nat) : spL M H cn ns k (q + 1) = if ftN M H cn ns (q : Nat) = 0 then spL M H cn ns k q else if spL M H cn ns k q = -4 ∨ woS (M 4) (fiN M H cn (q : Nat)) k < spL M H cn ns k q then woS (M 4) (fiN M H cn (q : Nat)) k else spL M H cn ns k q := rfl
theorem spG_s (M : mMem) (H : Int → Int) (cn ns k q : Nat) : spG M H cn ns k (q + 1) = if ftN M H cn ns (q : Nat) = 0 then spG M H cn ns k q else if woS (M 4) (fiN M H cn (q : Nat)) k ≤ spG M H cn ns k q then spG M H cn ns k q else woS (M 4) (fiN M H cn (q : Nat)) k := rfl
theorem P_span {M : mMem} (h : Inv M) (x : Int) : PairI 77 179 [vi x] M := by
  have hc := h.1
  have hs := h.2.2.2.2.2.1
  have n5 : 0 ≤ M 1 5 ∧ M 1 5 ≤ 5 := hc.2.1
  obtain ⟨k, hk⟩ : ∃ k : Nat, M 1 5 = k := ⟨(M 1 5).toNat, by omega⟩
  have k5 : k ≤ 5 := by omega
  have hL := hc.2.2.1
  rw [hk] at hL
  by_cases c : x = 0 ∨ x = 1
  · rcases ho_get hs with big | ⟨cn, ns, hcn, ok⟩
    · refine ask_pair (V := -2) h ?_ (fun m hm => ?_)
      · exact mI3_i ⟨by decide, Nat.le_of_ble_eq_true rfl⟩ (fun K hK => q_L_span_0 hK x M ⟨_, _, R_isPart 8 M x, br_t (b2_n0.mpr c) (cI (L_ho0 7 hc (FrL_refl M) big) (fun v m1 p => br_f (fun q => q p.1) (rI_i ⟨rfl, p.2⟩)))⟩)
      · exact mI3_i ⟨by decide, Nat.le_of_ble_eq_true rfl⟩ (fun K hK => q_M_span_0 hK x m ⟨_, _, R_in 8 _ _ _ _, br_t (b2_n0.mpr (by omega)) (cI (M_ho0 8 h.2.1 (fun i a b => by rw [(FrL_lo hm).2]) big) (fun v m1 p => br_f (by rw [p.1]; decide) (rI_i ⟨rfl, p.2.1⟩)))⟩)
    · have nb := fc_b cn (by have := ok.1; omega)
      refine ask_pair (V := if x ≠ 0 then spG M (hoF (M 2) 36) cn ns k (4 ^ cn) else spL M (hoF (M 2) 36) cn ns k (4 ^ cn)) h ?_ (fun m hm => ?_)
      · refine mI3_i ⟨by decide, Nat.le_of_ble_eq_true rfl⟩ (fun K hK => q_L_span_0 hK x M ⟨_, _, R_isPart 8 M x, br_t (b2_n0.mpr c) (cI (L_ho 7 hc (FrL_refl M) hcn ok.1) (fun v m1 p => ?_))⟩)
        have loop : ∀ (j i : Nat), i + j = 4 ^ cn → ∀ (m' : mMem) (s : Int), (s = if x ≠ 0 then spG M (hoF (M 2) 36) cn ns k i else spL M (hoF (M 2) 36) cn ns k i) → HoL M m' (hoF (M 2) 36) cn → K 30 [(0, vr 0), (1, vi x), (2, vi s), (3, vi ((4 ^ cn : Nat) : Int)), (4, vi (i : Int))] [] (S0, m') := by
          intro j
          induction j with
          | zero =>
            intro i hi m' s h0 h1
            rw [show i = 4 ^ cn by omega] at h0 ⊢
            exact q_L_span_30 hK _ _ _ _ m' (br_t (Int.le_refl _) (rI_i ⟨h0, h1.1⟩))
          | succ j ih =>
            intro i hi m' s h0 h1
            have h4 := ih (i + 1) (by omega)
            rw [spL_s, spG_s] at h4
            have ew : w32 ((i : Int) + 1) = ((i + 1 : Nat) : Int) := by rw [w32_s (by omega) (by omega)]; omega
            have lt : ¬ ((4 ^ cn : Nat) : Int) ≤ (i : Int) := by omega
            refine q_L_span_30 hK _ _ _ _ m' (br_f lt (cI (L_fit2 6 hc hs ok h1 (i : Int)) (fun v m2 p => ?_)))
            obtain ⟨p1, p2, p3, _⟩ := p
            rw [ew]
            rw [← p1] at h4
            have wr := woS_rng (f := fiN M (hoF (M 2) 36) cn (i : Int)) hL
            have tw := T_worth 6 p2 hk k5
            generalize woS (M 4) (fiN M (hoF (M 2) 36) cn (i : Int)) k = w at wr tw h4
            generalize spG M (hoF (M 2) 36) cn ns k i = sG at h0 h4
            generalize spL M (hoF (M 2) 36) cn ns k i = sL at h0 h4
            refine ⟨fun q => ?_, fun q => ⟨_, _, tw, ?_⟩⟩
            · rw [if_pos q, if_pos q] at h4
              exact h4 m2 s h0 p3
            · rw [if_neg q, if_neg q] at h4
              have fin : ∀ a : Int, (a = if x ≠ 0 then (if w ≤ sG then sG else w) else (if sL = -4 ∨ w < sL then w else sL)) → K 30 [(0, vr 0), (1, vi x), (2, vi a), (3, vi ((4 ^ cn : Nat) : Int)), (4, vi ((i + 1 : Nat) : Int))] [] (S0, m2) := fun a ha => h4 m2 a ha p3
              clear h4 ih
              by_cases y : x ≠ 0
              · rw [if_pos y] at h0
                refine ⟨fun z => q_L_span_63 hK _ _ _ _ _ m2 (br_t y ?_), fun z => q_L_span_63 hK _ _ _ _ _ m2 (br_t y ?_)⟩
                · rw [ew]
                  refine fin _ ?_
                  rw [if_pos y]
                  split <;> split <;> omega
                · rw [ew]
                  refine fin _ ?_
                  rw [if_pos y]
                  split <;> split <;> omega
              · rw [if_neg y] at h0
                refine ⟨fun z => q_L_span_63 hK _ _ _ _ _ m2 (br_f y ?_), fun z => q_L_span_63 hK _ _ _ _ _ m2 (br_f y ?_)⟩
                · rw [ew]
                  refine fin _ ?_
                  rw [if_neg y]
                  split <;> split <;> omega
                · rw [ew]
                  refine fin _ ?_
                  rw [if_neg y]
                  split <;> split <;> omega
        refine br_t (by rw [p.1]; decide) ⟨_, _, L_fc 8 p.2.2.2.1 ok.1, loop (4 ^ cn) 0 (by omega) m1 (-4) ?_ p.2⟩
        split <;> rfl
      · have m54 := (FrL_lo hm).2
        refine mI3_i ⟨by decide, Nat.le_of_ble_eq_true rfl⟩ (fun K hK => q_M_span_0 hK x m ⟨_, _, R_in 8 _ _ _ _, br_t (b2_n0.mpr (by omega)) (cI (M_ho 8 h.2.1 (fun i a b => by rw [m54]) (by rw [hm.1 53 (by omega)]) (hm.1 60 (by omega)) hcn ok.1) (fun v m1 p => ?_))⟩)
        have loop : ∀ (j i : Nat), i + j = 4 ^ cn → ∀ (m' : mMem), HoM M m m' (hoF (M 2) 36) cn → K 31 [(0, vr 53), (1, vi x), (2, vi (spL M (hoF (M 2) 36) cn ns k i)), (3, vi (spG M (hoF (M 2) 36) cn ns k i)), (4, vi (i : Int))] [] (S0, m') := by
          intro j
          induction j with
          | zero =>
            intro i hi m' h1
            rw [show i = 4 ^ cn by omega]
            refine q_M_span_31 hK _ _ _ _ m' ⟨_, _, M_fc 8 h1.2.2.1 ok.1, br_t (Int.le_refl _) ⟨fun q => rI_i ⟨?_, h1.1⟩, fun q => rI_i ⟨?_, h1.1⟩⟩⟩
            · rw [if_pos q]
            · rw [if_neg q]
          | succ j ih =>
            intro i hi m' h1
            have h4 := ih (i + 1) (by omega)
            rw [spL_s, spG_s] at h4
            have ew : w32 ((i : Int) + 1) = ((i + 1 : Nat) : Int) := by rw [w32_s (by omega) (by omega)]; omega
            have lt : ¬ ((4 ^ cn : Nat) : Int) ≤ (i : Int) := by omega
            refine q_M_span_31 hK _ _ _ _ m' ⟨_, _, M_fc 8 h1.2.2.1 ok.1, br_f lt (cI (M_fit2 6 h.2.1 hc hs ok h1 (i : Int)) (fun v m2 p => ?_))⟩
            obtain ⟨p1, p2, p3, _⟩ := p
            rw [ew]
            rw [← p1] at h4
            have tw := G_worth 6 p2 (by omega) hc hk k5
            have h4 := h4 m2 p3
            generalize woS (M 4) (fiN M (hoF (M 2) 36) cn (i : Int)) k = w at tw h4
            generalize spG M (hoF (M 2) 36) cn ns k i = sG at h4
            generalize spL M (hoF (M 2) 36) cn ns k i = sL at h4
            refine ⟨fun q => ?_, fun q => ⟨_, _, tw, ?_⟩⟩
            · rw [if_pos q, if_pos q] at h4
              exact h4
            · rw [if_neg q, if_neg q] at h4
              have k76 : ∀ s0 : Int, s0 = (if sL = -4 ∨ w < sL then w else sL) → K 76 [(0, vr 53), (1, vi x), (3, vi sG), (4, vi (i : Int)), (5, vi w)] [vi s0] (S0, m2) := by
                intro s0 e0
                refine q_M_span_76 hK _ _ _ _ _ m2 ⟨fun z => ?_, fun z => ?_⟩
                · rw [if_pos z, ← e0] at h4
                  rw [ew]
                  exact h4
                · rw [if_neg z, ← e0] at h4
                  rw [ew]
                  exact h4
              refine ⟨fun z => k76 _ ?_, fun z => ⟨fun z2 => k76 _ ?_, fun z2 => k76 _ ?_⟩⟩
              · rw [if_pos (Or.inl z)]
              · rw [if_neg (by omega)]
              · rw [if_pos (by omega)]
        exact br_t p.1 (loop (4 ^ cn) 0 (by omega) m1 p.2)
  · exact ⟨-1, M, M, ⟨⟨by decide, Nat.le_of_ble_eq_true rfl⟩, fun K hK => q_L_span_0 hK x M ⟨_, _, R_isPart 8 M x, br_f (fun q => c (b2_n0.mp q)) (mret_i rfl rfl)⟩⟩, ⟨⟨by decide, Nat.le_of_ble_eq_true rfl⟩, fun K hK => q_M_span_0 hK x M ⟨_, _, R_in 8 _ _ _ _, br_f (fun q => c (by have q := b2_n0.mp q; omega)) (mret_i rfl rfl)⟩⟩, h⟩
