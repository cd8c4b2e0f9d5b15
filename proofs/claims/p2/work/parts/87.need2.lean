/-! PURE PROOFS 62: need comes to its end: the other -/
theorem G_back {m M : mMem} {p : Int} {g s : Int → Int} {t c : Int} (hc : Cht M 1) (h : PgC m M p (fup g t c) (fup s c (s c - 1))) (ht : 0 ≤ t ∧ t < 36) (hz : 1 ≤ c ∧ c ≤ 3) (g0 : g t = 0) (s9 : 0 ≤ s c ∧ s c ≤ 99) : PgC (mupd (mupd m 54 (p + t) 0) 54 (p + 35 + c) (m 54 (p + 35 + c) + 1)) M p g s := by
  obtain ⟨h1, h2, h3, h4⟩ := h
  have b5 : 0 ≤ M 1 5 ∧ M 1 5 ≤ 5 := hc.2.1
  have gv := (h2 c hz.1 hz.2).1
  rw [fup_at] at gv
  unfold PgC
  rw [mupd_at, mupd_at]
  refine ⟨fun i q0 q1 => ?_, fun x q0 q1 => ?_, ?_, fun l x q0 q1 q2 q3 => ?_⟩
  · rw [fup_ne _ _ (by omega)]
    by_cases z : i = t
    · rw [z, fup_at, g0]
    · rw [fup_ne _ _ (by omega), h1 i q0 q1, fup_ne _ _ z]
  · by_cases z : x = c
    · rw [z, fup_at]
      omega
    · have q := h2 x q0 q1
      rw [fup_ne _ _ z] at q
      rw [fup_ne _ _ (by omega), fup_ne _ _ (by omega)]
      exact q
  · rw [fup_ne _ _ (by omega), fup_ne _ _ (by omega)]
    exact h3
  · rw [fup_ne _ _ (by omega), fup_ne _ _ (by omega)]
    exact h4 l x q0 q1 q2 q3
theorem M_held (d : Nat) {M m : mMem} {l n : Int} (hg : Pg M 1 0) (hc : Cht M 1) (hl : 0 ≤ l ∧ l < M 1 5) (m54 : ∀ i : Int, 0 ≤ i → i < 85 → m 54 i = M 54 i) : mI3 (d + 4) 161 [vr 53, vi l, vi n] m (fun _ m' => FrM m' m) := by
  refine mI3_i ⟨by decide, Nat.le_of_ble_eq_true rfl⟩ (fun K hK => q_M_isHeldBy_0 hK l n m ?_)
  have inner : ∀ (x : Int) (g s : Int → Int), (∀ c : Int, 1 ≤ c → c ≤ 3 → 0 ≤ s c ∧ s c ≤ 99) → (∀ m', FrM m' m → K 2 [(0, vr 53), (1, vi l), (2, vi n), (3, vi (w32 (x + 1)))] [] (S0, m')) → ∀ (j i : Nat), i + j = 600 → ∀ m', PgC m' M 425 g s → FrM m' m → K 55 [(0, vr 53), (1, vi l), (2, vi n), (3, vi x), (4, vi (i : Int))] [] (S0, m') := by
    intro x g s s9 nx j
    induction j with
    | zero =>
      intro i hi m' a b
      rw [show i = 600 by omega]
      exact q_M_isHeldBy_55 hK _ _ _ _ m' (br_t (by decide) (nx m' b))
    | succ j ih =>
      intro i hi m' a b
      have h4 := ih (i + 1) (by omega)
      have hz : ∃ z : Int, z = (i : Int) := ⟨_, rfl⟩
      obtain ⟨z, hz⟩ := hz
      have ez : ((i + 1 : Nat) : Int) = z + 1 := by omega
      rw [ez] at h4
      rw [← hz]
      have zb : 0 ≤ z ∧ z < 600 := by omega
      clear hz ez hi ih
      have ew : w32 (z + 1) = z + 1 := w32_s (by omega) (by omega)
      have by1 := G_by d a (by omega) z zb
      refine q_M_isHeldBy_55 hK _ _ _ _ m' (br_f (by omega) ⟨fun _ => nx m' b, fun _ => ⟨_, _, by1, ?_⟩⟩)
      rw [ew]
      refine ⟨fun q => ?_, fun q => ?_⟩
      · rw [if_neg (b2_0.mp q)]
        exact h4 m' a b
      · have q := b2_n0.mp q
        rw [if_pos q]
        have j1 : w32 (w32 (6 * jdiv z 100) + jrem (jdiv z 10) 10) = 6 * (z / 100) + z / 10 % 10 := by
          rw [jdiv_nn zb.1 (by omega) (by omega), jdiv_nn zb.1 (by omega) (by omega), jrem_nn (by omega), w32_s (z := 6 * (z / 100)) (by omega) (by omega), w32_s (by omega) (by omega)]
        have k130 := fun t s0 mm => q_M_isHeldBy_130 hK l n x z t s0 mm
        have j3 : w32 (w32 (461 + jrem z 10) - 1) = 425 + 35 + z % 10 := by
          rw [jrem_nn zb.1, w32_s (z := 461 + z % 10) (by omega) (by omega), w32_s (by omega) (by omega)]
          omega
        rw [j3, ew] at k130
        rw [j1]
        have tb : 0 ≤ 6 * (z / 100) + z / 10 % 10 ∧ 6 * (z / 100) + z / 10 % 10 < 36 := by
          have := q.1
          omega
        have cb : 1 ≤ z % 10 ∧ z % 10 ≤ 3 := q.1.2
        generalize 6 * (z / 100) + z / 10 % 10 = t at q tb
        generalize z % 10 = c at q cb k130
        have st := G_st a hc tb cb q.2.2
        have st2 : PgC (mupd (stM m' 425 t c) 53 19 z) M 425 (fup g t c) (fup s c (s c - 1)) := G_eq st hc (fun y _ _ => by rw [mupd_ne _ _ _ (by decide)])
        have f2 : FrM (mupd (stM m' 425 t c) 53 19 z) m := FrM_53 (FrM_st b (by decide) tb.1 (by omega)) (by decide) (by decide) (by decide) (by decide)
        generalize mupd (stM m' 425 t c) 53 19 z = m2 at st2 f2
        have sv := (st2.2.1 c cb.1 cb.2)
        rw [fup_at] at sv
        have w5 : w32 (425 + t) = 425 + t := w32_s (by omega) (by omega)
        have old : mupd m2 54 (425 + t) 0 54 (425 + 35 + c) = m2 54 (425 + 35 + c) := by rw [mupd_at, fup_ne _ _ (by omega)]
        have wv : w32 (m2 54 (425 + 35 + c) + 1) = m2 54 (425 + 35 + c) + 1 := w32_s (by omega) (by omega)
        have bk := G_back hc st2 tb cb q.2.1 (s9 c cb.1 cb.2)
        have f3 : FrM (mupd (mupd m2 54 (425 + t) 0) 54 (425 + 35 + c) (m2 54 (425 + 35 + c) + 1)) m := FrM_set (FrM_set f2 (by omega)) (by omega)
        have kk : ∀ s0 : Int, K 130 [(0, vr 53), (1, vi l), (2, vi n), (3, vi x), (4, vi z), (7, vi t)] [vi s0] (S0, m2) := by
          intro s0
          refine k130 t s0 m2 ?_
          rw [w5, old, wv]
          exact mIn_i (by omega) (by omega) (mIn_i (by omega) (by omega) (mIn_i (by omega) (by omega) ⟨fun _ => h4 _ bk f3, fun _ => rI_i f3⟩))
        exact ⟨_, _, G_reads (d + 1) st2 (by omega) hc hl, fun _ => kk 0, fun _ => kk 1⟩
  have loop : ∀ (j i : Nat), i + j = 600 → ∀ m', FrM m' m → K 2 [(0, vr 53), (1, vi l), (2, vi n), (3, vi (i : Int))] [] (S0, m') := by
    intro j
    induction j with
    | zero =>
      intro i hi m' b
      rw [show i = 600 by omega]
      exact q_M_isHeldBy_2 hK _ _ _ m' (br_t (by decide) (rI_i b))
    | succ j ih =>
      intro i hi m' b
      have h4 := ih (i + 1) (by omega)
      have ew : w32 ((i : Int) + 1) = ((i + 1 : Nat) : Int) := by rw [w32_s (by omega) (by omega)]; omega
      have zb : 0 ≤ (i : Int) ∧ (i : Int) < 600 := by omega
      rw [← ew] at h4
      generalize (i : Int) = z at zb h4 ⊢
      clear ih hi ew
      have g := G_copy (m := m') (p := 425) hg hc (fun a q0 q1 => by rw [b.2.2.2.2.2 a q0 (by omega), m54 a q0 q1])
      have fr := FrM_cpy (s := 0) b (show (255 : Int) ≤ 425 by decide)
      refine q_M_isHeldBy_2 hK _ _ _ m' (br_f (by omega) ⟨_, R_copies (d + 2) m' 0 425 (by omega) (by omega) (by omega), ?_⟩)
      generalize mcpy m' 54 0 54 425 85 = m0 at g fr
      have by1 := G_by d g (by omega) z zb
      refine ⟨_, _, by1, fun q => ?_, fun q => ?_⟩
      · rw [if_neg (b2_0.mp q)]
        exact h4 m0 fr
      · have q := b2_n0.mp q
        rw [if_pos q]
        have tb : 0 ≤ 6 * (z / 100) + z / 10 % 10 ∧ 6 * (z / 100) + z / 10 % 10 < 36 := by
          have := q.1
          omega
        have cb : 1 ≤ z % 10 ∧ z % 10 ≤ 3 := q.1.2
        generalize 6 * (z / 100) + z / 10 % 10 = t at q tb
        generalize z % 10 = c at q cb
        have st := G_st g hc tb cb q.2.2
        have st2 : PgC (mupd (stM m0 425 t c) 53 18 z) M 425 (fup (M 2) t c) (fup (M 3) c (M 3 c - 1)) := G_eq st hc (fun y _ _ => by rw [mupd_ne _ _ _ (by decide)])
        have f2 : FrM (mupd (stM m0 425 t c) 53 18 z) m := FrM_53 (FrM_st fr (by decide) tb.1 (by omega)) (by decide) (by decide) (by decide) (by decide)
        generalize mupd (stM m0 425 t c) 53 18 z = m2 at st2 f2
        have k55 : K 55 [(0, vr 53), (1, vi l), (2, vi n), (3, vi z), (4, vi 0)] [] (S0, m2) := by
          refine inner z _ _ (fun x a b => ?_) h4 600 0 (by omega) m2 st2 f2
          exact (st2.2.1 x a b).2
        exact ⟨fun _ => k55, fun _ => ⟨_, _, G_reads (d + 1) st2 (by omega) hc hl, fun _ => k55, fun _ => rI_i f2⟩⟩
  exact loop 600 0 (by omega) m (FrM_refl m)
theorem P_need {M : mMem} (h : Inv M) (l x : Int) : PairU 66 162 [vi l, vi x] M := by
  have hc := h.1
  have n5 : 0 ≤ M 1 5 ∧ M 1 5 ≤ 5 := hc.2.1
  have p3 : M 54 39 = M 1 5 := (Pg0_of h.2.1).2.2.1
  obtain ⟨v, m, f, r⟩ := L_needs hc l x
  have m54 := (FrL_lo f).2
  have m39 : m 54 39 = M 1 5 := by rw [m54, p3]
  have b : mI3 10 162 [vr 53, vi l, vi x] m (fun _ m' => FrM m' m) := by
    refine mI3_i ⟨by decide, Nat.le_of_ble_eq_true rfl⟩ (fun K hK => q_M_need_0 hK l x m ⟨_, _, R_mIsLaw 7 m l (by rw [m39]; exact n5), fun _ => rI_i (FrM_refl m), fun q => ?_⟩)
    have hl := b2_n0.mp q
    rw [m39] at hl
    have k70 : ∀ s0 m', FrM m' m → K 70 [(0, vr 53), (2, vi x)] [vi s0] (S0, m') := fun s0 m' b => q_M_need_70 hK x s0 m' ⟨fun _ => rI_i b, fun _ => ⟨fun _ => ⟨fun _ => ⟨fun _ => rI_i b, fun _ => rI_i b⟩, fun _ => rI_i b⟩, fun _ => rI_i b⟩⟩
    have k28 : K 28 [(0, vr 53), (1, vi l), (2, vi x)] [] (S0, m) := by
      refine q_M_need_28 hK l x m ⟨_, _, G_reads 7 (G_0 h.2.1 hc (fun a q0 q1 => by rw [m54])) (by omega) hc hl, fun _ => ?_, fun _ => k70 _ m (FrM_refl m)⟩
      refine cI (M_held 5 h.2.1 hc hl (fun a q0 q1 => by rw [m54])) (fun v2 m2 p2 => ⟨fun _ => ?_, fun _ => k70 _ m2 p2⟩)
      refine cI (M_held 5 h.2.1 hc hl (fun a q0 q1 => by rw [p2.2.2.2.2.2 a q0 (by omega), m54])) (fun v3 m3 p3 => ⟨fun _ => k70 _ m3 (FrM_trans p3 p2), fun _ => k70 _ m3 (FrM_trans p3 p2)⟩)
    exact ⟨fun _ => k28, fun _ => ⟨_, _, R_in 8 _ _ _ _, fun _ => k28, fun _ => rI_i (FrM_refl m)⟩⟩
  obtain ⟨v2, m2, f2, r2⟩ := b
  exact ⟨v, v2, m, m2, r, r2, Inv_fr h (Fr_trans (FrM_fr f2) (FrL_fr f))⟩
