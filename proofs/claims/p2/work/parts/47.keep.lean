/-! PURE PROOFS 25: see, keep, back -/
theorem P_see {M : mMem} (h : Inv M) (l v : Int) : PairI 73 172 [vi l, vi v] M := by
  have hc := h.1
  have hp := Pg0_of h.2.1
  have ht := h.2.2.2.2.1
  have hs := h.2.2.2.2.2.1
  have hh := h.2.2.2.2.2.2.1
  have ho := h.2.2.2.2.2.2.2.1
  have n0 : 0 ≤ M 1 5 ∧ M 1 5 ≤ 5 := hc.2.1
  have p3 : M 54 39 = M 1 5 := hp.2.2.1
  have s0 : 0 ≤ M 0 13 ∧ M 0 13 ≤ 6 := hs.1
  have s1 : M 53 22 = M 0 13 := hs.2.1
  by_cases c : (0 ≤ l ∧ l < M 1 5) ∧ 0 ≤ v ∧ v ≤ 60
  · by_cases c2 : M 0 13 < 6
    · have w1 : w32 (M 0 13 + 1) = M 0 13 + 1 := w32_s (by omega) (by omega)
      have x1 : mupd M 40 (M 0 13) l 0 13 = M 0 13 := by rw [mupd_ne _ _ _ (by decide)]
      have x2 : mupd (mupd M 40 (M 0 13) l) 41 (M 0 13) v 0 13 = M 0 13 := by rw [mupd_ne _ _ _ (by decide), x1]
      have a1 : mR3 10 73 [vr 0, vi l, vi v] (S0, M) (some (vi (M 0 13 + 1)), (S0, mupd (mupd (mupd M 40 (M 0 13) l) 41 (M 0 13) v) 0 13 (M 0 13 + 1))) := by
        refine ⟨⟨by decide, Nat.le_of_ble_eq_true rfl⟩, fun K hK => q_L_see_0 hK l v M ⟨_, _, R_isLaw 8 M l, br_f (fun q => b2_0.mp q c.1) (br_f (by omega) (br_t c.2.2 (br_t c2 (mIn_i (by omega) (by omega) ?_))))⟩⟩
        rw [x1, x2, w1]
        exact mIn_i (by omega) (by omega) (mret_i (by rw [mupd_at, fup_at]) rfl)
      have e0 : ∀ k : Nat, k ≠ 0 → k ≠ 40 → k ≠ 41 → mupd (mupd (mupd M 40 (M 0 13) l) 41 (M 0 13) v) 0 13 (M 0 13 + 1) k = M k := fun k h1 h2 h3 => by rw [mupd_ne _ _ _ h1, mupd_ne _ _ _ h3, mupd_ne _ _ _ h2]
      have f0 : mupd (mupd (mupd M 40 (M 0 13) l) 41 (M 0 13) v) 0 13 (M 0 13 + 1) 0 = fup (M 0) 13 (M 0 13 + 1) := by rw [mupd_at, mupd_ne _ _ _ (by decide), mupd_ne _ _ _ (by decide)]
      have f40 : mupd (mupd (mupd M 40 (M 0 13) l) 41 (M 0 13) v) 0 13 (M 0 13 + 1) 40 = fup (M 40) (M 0 13) l := by rw [mupd_ne _ _ _ (by decide), mupd_ne _ _ _ (by decide), mupd_at]
      have f41 : mupd (mupd (mupd M 40 (M 0 13) l) 41 (M 0 13) v) 0 13 (M 0 13 + 1) 41 = fup (M 41) (M 0 13) v := by rw [mupd_ne _ _ _ (by decide), mupd_at, mupd_ne _ _ _ (by decide)]
      generalize mupd (mupd (mupd M 40 (M 0 13) l) 41 (M 0 13) v) 0 13 (M 0 13 + 1) = m at a1 e0 f0 f40 f41
      generalize hn : M 0 13 = n at *
      have y1 : m 53 22 = n := by
        rw [e0 53 (by decide) (by decide) (by decide)]
        exact s1
      have i1 : w32 (2 * n) = 2 * n := w32_s (by omega) (by omega)
      have i2 : w32 (2 * n + 1) = 2 * n + 1 := w32_s (by omega) (by omega)
      have y2 : mupd m 60 (2 * n) l 53 22 = n := by rw [mupd_ne _ _ _ (by decide), y1]
      have y3 : mupd (mupd m 60 (2 * n) l) 60 (2 * n + 1) v 53 22 = n := by rw [mupd_ne _ _ _ (by decide), y2]
      have q39 : m 54 39 = M 1 5 := by
        rw [e0 54 (by decide) (by decide) (by decide)]
        exact p3
      have a2 : mR3 10 172 [vr 53, vi l, vi v] (S0, m) (some (vi (n + 1)), (S0, mupd (mupd (mupd m 60 (2 * n) l) 60 (2 * n + 1) v) 53 22 (n + 1))) := by
        refine ⟨⟨by decide, Nat.le_of_ble_eq_true rfl⟩, fun K hK => q_M_see_0 hK l v m ⟨_, _, R_mIsLaw 7 m l (by rw [q39]; exact n0), br_f (fun q => b2_0.mp q (by rw [q39]; exact c.1)) ⟨_, _, R_in 8 _ _ _ _, br_t (b2_n0.mpr (by omega)) (br_t (by omega) ?_)⟩⟩⟩
        rw [y1, i1, y2, i1, i2, y3, w1]
        exact mIn_i (by omega) (by omega) (mIn_i (by omega) (by omega) (mret_i (by rw [mupd_at, fup_at]) rfl))
      refine ⟨_, _, _, a1, a2, ?_⟩
      have d : ∀ k : Nat, k ≠ 60 → k ≠ 53 → mupd (mupd (mupd m 60 (2 * n) l) 60 (2 * n + 1) v) 53 22 (n + 1) k = m k := fun k h1 h2 => by rw [mupd_ne _ _ _ h2, mupd_ne _ _ _ h1, mupd_ne _ _ _ h1]
      have f60 : mupd (mupd (mupd m 60 (2 * n) l) 60 (2 * n + 1) v) 53 22 (n + 1) 60 = fup (fup (M 60) (2 * n) l) (2 * n + 1) v := by rw [mupd_ne _ _ _ (by decide), mupd_at, mupd_at, e0 60 (by decide) (by decide) (by decide)]
      have f53 : mupd (mupd (mupd m 60 (2 * n) l) 60 (2 * n + 1) v) 53 22 (n + 1) 53 = fup (M 53) 22 (n + 1) := by rw [mupd_at, mupd_ne _ _ _ (by decide), mupd_ne _ _ _ (by decide), e0 53 (by decide) (by decide) (by decide)]
      generalize mupd (mupd (mupd m 60 (2 * n) l) 60 (2 * n + 1) v) 53 22 (n + 1) = m' at d f60 f53
      have e : ∀ k : Nat, k ≠ 0 → k ≠ 40 → k ≠ 41 → k ≠ 60 → k ≠ 53 → m' k = M k := fun k h1 h2 h3 h4 h5 => by rw [d k h4 h5, e0 k h1 h2 h3]
      have g0 : m' 0 = fup (M 0) 13 (n + 1) := by rw [d 0 (by decide) (by decide), f0]
      have g40 : m' 40 = fup (M 40) n l := by rw [d 40 (by decide) (by decide), f40]
      have g41 : m' 41 = fup (M 41) n v := by rw [d 41 (by decide) (by decide), f41]
      refine Inv_ch h (fun k hk => e k (by omega) (by omega) (by omega) (by omega) (by omega)) (fun i _ _ => by rw [e 54 (by decide) (by decide) (by decide) (by decide) (by decide)]) ?_ ?_ (ShI_fr hh (fun k hk => e k (by omega) (by omega) (by omega) (by omega) (by omega))) ?_
      · exact TaI_fr ht (by rw [e 35 (by decide) (by decide) (by decide) (by decide) (by decide)]) (by rw [e 35 (by decide) (by decide) (by decide) (by decide) (by decide)]) (by rw [f53, fup_ne _ _ (by decide)]) (by rw [f53, fup_ne _ _ (by decide)]) (e 56 (by decide) (by decide) (by decide) (by decide) (by decide)) (e 36 (by decide) (by decide) (by decide) (by decide) (by decide))
      · unfold SeI
        rw [g0, f53, f60, g40, g41, fup_at, fup_at]
        refine ⟨by omega, rfl, fun i h0 h1 => ?_⟩
        by_cases q : i = n
        · rw [q, fup_ne _ _ (by omega), fup_at, fup_at, fup_at, fup_at]
          omega
        · have g := hs.2.2 i h0 (by omega)
          rw [fup_ne _ _ (by omega), fup_ne _ _ (by omega), fup_ne _ _ (by omega), fup_ne _ _ (by omega), fup_ne _ _ (by omega), fup_ne _ _ (by omega)]
          exact g
      · rw [g0, f53, fup_ne _ _ (by decide), fup_ne _ _ (by decide)]
        exact ho
    · refine ⟨-3, M, M, ⟨⟨by decide, Nat.le_of_ble_eq_true rfl⟩, fun K hK => q_L_see_0 hK l v M ⟨_, _, R_isLaw 8 M l, br_f (fun q => b2_0.mp q c.1) (br_f (by omega) (br_t c.2.2 (br_f c2 (mret_i rfl rfl))))⟩⟩, ⟨⟨by decide, Nat.le_of_ble_eq_true rfl⟩, fun K hK => q_M_see_0 hK l v M ⟨_, _, R_mIsLaw 7 M l (by rw [p3]; exact n0), br_f (fun q => b2_0.mp q (by rw [p3]; exact c.1)) ⟨_, _, R_in 8 _ _ _ _, br_t (b2_n0.mpr (by omega)) (br_f (fun q => q (by omega)) (mret_i rfl rfl))⟩⟩⟩, h⟩
  · refine ⟨-1, M, M, ⟨⟨by decide, Nat.le_of_ble_eq_true rfl⟩, fun K hK => q_L_see_0 hK l v M ⟨_, _, R_isLaw 8 M l, ⟨fun _ => mret_i rfl rfl, fun q => ⟨fun _ => mret_i rfl rfl, fun q2 => br_f (fun q3 => c ⟨b2_n0.mp q, by omega⟩) (mret_i rfl rfl)⟩⟩⟩⟩, ⟨⟨by decide, Nat.le_of_ble_eq_true rfl⟩, fun K hK => q_M_see_0 hK l v M ⟨_, _, R_mIsLaw 7 M l (by rw [p3]; exact n0), ⟨fun _ => mret_i rfl rfl, fun q => ⟨_, _, R_in 8 _ _ _ _, br_f (fun q2 => ?_) (mret_i rfl rfl)⟩⟩⟩⟩, h⟩
    have q := b2_n0.mp q
    have q2 := b2_n0.mp q2
    rw [p3] at q
    exact c ⟨q, by omega⟩
theorem Pg_same {M N : mMem} {b c : Nat} {p q : Int} (h : Pg N c q) (h5 : N c 5 ≤ 5) (h6 : N c 6 ≤ 8) (s : Same M b N c) (e : ∀ i : Int, 0 ≤ i → i < 85 → M 54 (p + i) = N 54 (q + i)) : Pg M b p := by
  obtain ⟨g1, g2, g3, g4, g5, g6⟩ := h
  obtain ⟨s1, s2, s3, s4, s5, f5, f6⟩ := s
  refine ⟨fun i h0 h1 => ?_, fun x h0 h1 => ?_, ?_, fun l x h0 h1 h2 h3 => ?_, ?_, fun i h0 h1 => ?_⟩
  · rw [e i h0 (by omega), s1 i h0 h1]
    exact g1 i h0 h1
  · rw [Int.add_assoc, e (35 + x) (by omega) (by omega), s2 x (by omega) (by omega), ← Int.add_assoc]
    exact g2 x h0 h1
  · rw [e 39 (by omega) (by omega), f5]
    exact g3
  · have d := g4 l x h0 (by omega) h2 h3
    rw [show p + 40 + 5 * x + l = p + (40 + 5 * x + l) by omega, e _ (by omega) (by omega), s3 _ (by omega) (by omega), ← d]
    congr 1
    omega
  · rw [e 60 (by omega) (by omega), f6]
    exact g5
  · have d := g6 i h0 (by omega)
    rw [show p + 61 + 3 * i = p + (61 + 3 * i) by omega, show p + 62 + 3 * i = p + (62 + 3 * i) by omega, show p + 63 + 3 * i = p + (63 + 3 * i) by omega, e (61 + 3 * i) (by omega) (by omega), e (62 + 3 * i) (by omega) (by omega), e (63 + 3 * i) (by omega) (by omega), s4 i h0 (by omega), s5 i h0 (by omega), show q + (61 + 3 * i) = q + 61 + 3 * i by omega, show q + (62 + 3 * i) = q + 62 + 3 * i by omega, show q + (63 + 3 * i) = q + 63 + 3 * i by omega]
    exact d
theorem ImI_fr2 {M N : mMem} {c b : Nat} {x p : Int} (h : ImI N c b x p) (hc : M c = N c) (h3 : M 63 x = N 63 x) (e : ∀ k, b ≤ k → k < b + 8 → M k = N k) (e4 : ∀ i, p ≤ i → i < p + 85 → M 54 i = N 54 i) : ImI M c b x p := by
  obtain ⟨g1, g2, g3⟩ := h
  unfold ImI
  rw [hc, h3]
  refine ⟨g1, g2, fun q => ?_⟩
  have g := g3 q
  have l := g.1.2.1
  have m := g.1.2.2.2.1
  exact ⟨Cht_eq g.1 e, Pg_fr g.2 m.2 l.2 e e4⟩
theorem keep_L {M : mMem} (k : Int) (c2 : Nat) (hk : (k = 0 ∧ c2 = 17) ∨ (k = 1 ∧ c2 = 26)) (hb : M c2 1 = 0 ∨ M c2 1 = 1) : mR3 10 80 [vr 0, vi k] (S0, M) (some (vi (M c2 1)), (S0, mupd (cpyM M (c2 + 1) 1) c2 1 1)) := by
  refine ⟨⟨by decide, Nat.le_of_ble_eq_true rfl⟩, fun K hK => ?_⟩
  have k39 : K 39 [(0, vr 0), (2, vr c2)] [vi (M c2 1)] (S0, M) := by
    refine q_L_keep_39 hK c2 _ M (by omega) ⟨_, R_copyFrom 8 M (c2 + 1) 1 (by unfold cpP; omega), mret_i rfl rfl⟩
  have k11 : K 11 [(0, vr 0), (1, vi k)] [] (S0, M) := by
    rcases hk with ⟨a, b⟩ | ⟨a, b⟩
    · subst b
      refine q_L_keep_11 hK k M (br_f (fun q => q a) ⟨fun q => ?_, fun q => ?_⟩)
      · rw [q] at k39
        exact k39
      · rw [show M 17 1 = 1 by omega] at k39
        exact k39
    · subst b
      refine q_L_keep_11 hK k M (br_t (by omega) ⟨fun q => ?_, fun q => ?_⟩)
      · rw [q] at k39
        exact k39
      · rw [show M 26 1 = 1 by omega] at k39
        exact k39
  exact q_L_keep_0 hK k M ⟨fun _ => k11, fun q => br_t (by omega) k11⟩
theorem keep_M {m : mMem} (k : Int) (hk : k = 0 ∨ k = 1) (hb : m 63 k = 0 ∨ m 63 k = 1) : mR3 10 183 [vr 53, vi k] (S0, m) (some (vi (m 63 k)), (S0, mupd (mcpy m 54 0 54 (85 * (k + 1)) 85) 63 k 1)) := by
  have i1 : w32 (85 * w32 (k + 1)) = 85 * (k + 1) := by rw [w32_s (z := k + 1) (by omega) (by omega), w32_s (by omega) (by omega)]
  refine ⟨⟨by decide, Nat.le_of_ble_eq_true rfl⟩, fun K hK => q_M_keep_0 hK k m ⟨_, _, R_in 8 _ _ _ _, br_t (b2_n0.mpr (by omega)) ?_⟩⟩
  rw [i1]
  refine ⟨_, R_copies 8 m 0 (85 * (k + 1)) (by omega) (by omega) (by omega), ?_⟩
  rw [mcpy_ne m 54 0 (k := 63) (85 * (k + 1)) 85 (by decide)]
  refine mIn_i (by omega) (by omega) ⟨fun q => mIn_i (by omega) (by omega) (mret_i q.symm rfl), fun q => mIn_i (by omega) (by omega) (mret_i (by omega) rfl)⟩
theorem keep_own {M m : mMem} {c2 : Nat} {k : Int} (hc : Cht M 1) (hp : Pg M 1 0) (hk : (k = 0 ∧ c2 = 17) ∨ (k = 1 ∧ c2 = 26)) (e : ∀ j : Nat, c2 + 1 ≤ j → j < c2 + 9 → m j = cpyM M (c2 + 1) 1 j) (f1 : m c2 1 = 1) (f63 : m 63 k = 1) (f54 : ∀ i : Int, 0 ≤ i → i < 85 → m 54 (85 * (k + 1) + i) = M 54 (0 + i)) : ImI m c2 (c2 + 1) k (85 * (k + 1)) := by
  have cp : cpP (c2 + 1) 1 := by
    unfold cpP
    omega
  have h5 := hc.2.1
  have h6 := hc.2.2.2.1
  have ce : Cht m (c2 + 1) := Cht_eq (cpy_cht cp hc) (fun j q0 q1 => e j q0 (by omega))
  refine ⟨Or.inr f1, by rw [f63, f1], fun _ => ⟨ce, ?_⟩⟩
  have sm := cpy_same M cp
  refine Pg_same hp h5.2 h6.2 ?_ f54
  unfold Same at sm ⊢
  rw [e (c2 + 1) (by omega) (by omega), e (c2 + 1 + 1) (by omega) (by omega), e (c2 + 1 + 2) (by omega) (by omega), e (c2 + 1 + 3) (by omega) (by omega), e (c2 + 1 + 4) (by omega) (by omega), e (c2 + 1 + 5) (by omega) (by omega)]
  exact sm
theorem P_keep {M : mMem} (h : Inv M) (k : Int) : PairI 80 183 [vi k] M := by
  by_cases c : k = 0 ∨ k = 1
  · obtain ⟨c2, hk⟩ : ∃ c2 : Nat, (k = 0 ∧ c2 = 17) ∨ (k = 1 ∧ c2 = 26) := by
      rcases c with c | c
      · exact ⟨17, Or.inl ⟨c, rfl⟩⟩
      · exact ⟨26, Or.inr ⟨c, rfl⟩⟩
    obtain ⟨i1, i2, i3, i4, i5, i6, i7, i8, i9, i10⟩ := h
    have hb : (M c2 1 = 0 ∨ M c2 1 = 1) ∧ M 63 k = M c2 1 := by
      rcases hk with ⟨a, b⟩ | ⟨a, b⟩
      · rw [a, b]
        exact ⟨i3.1, i3.2.1⟩
      · rw [a, b]
        exact ⟨i4.1, i4.2.1⟩
    have a1 := keep_L (M := M) k c2 hk hb.1
    have m63 : mupd (cpyM M (c2 + 1) 1) c2 1 1 63 = M 63 := by rw [mupd_ne _ _ _ (by omega), cpy_ne M (by omega)]
    have a2 := keep_M (m := mupd (cpyM M (c2 + 1) 1) c2 1 1) k c (by rw [m63, hb.2]; exact hb.1)
    rw [m63, hb.2] at a2
    refine ⟨_, _, _, a1, a2, ?_⟩
    have e : ∀ j : Nat, (j < c2 ∨ c2 + 9 ≤ j) → j ≠ 54 → j ≠ 63 → mupd (mcpy (mupd (cpyM M (c2 + 1) 1) c2 1 1) 54 0 54 (85 * (k + 1)) 85) 63 k 1 j = M j := fun j q0 q1 q2 => by rw [mupd_ne _ _ _ q2, mcpy_ne _ _ _ _ _ q1, mupd_ne _ _ _ (by omega), cpy_ne M (by omega)]
    have e1 : ∀ j : Nat, c2 + 1 ≤ j → j < c2 + 9 → mupd (mcpy (mupd (cpyM M (c2 + 1) 1) c2 1 1) 54 0 54 (85 * (k + 1)) 85) 63 k 1 j = cpyM M (c2 + 1) 1 j := fun j q0 q1 => by rw [mupd_ne _ _ _ (by omega), mcpy_ne _ _ _ _ _ (by omega), mupd_ne _ _ _ (by omega)]
    have f1 : mupd (mcpy (mupd (cpyM M (c2 + 1) 1) c2 1 1) 54 0 54 (85 * (k + 1)) 85) 63 k 1 c2 1 = 1 := by rw [mupd_ne _ _ _ (by omega), mcpy_ne _ _ _ _ _ (by omega), mupd_at, fup_at]
    have f63 : mupd (mcpy (mupd (cpyM M (c2 + 1) 1) c2 1 1) 54 0 54 (85 * (k + 1)) 85) 63 k 1 63 = fup (M 63) k 1 := by rw [mupd_at, mcpy_ne _ _ _ _ _ (by omega), m63]
    have m54 : mupd (cpyM M (c2 + 1) 1) c2 1 1 54 = M 54 := by rw [mupd_ne _ _ _ (by omega), cpy_ne M (by omega)]
    have f54 : ∀ i : Int, 0 ≤ i → i < 85 → mupd (mcpy (mupd (cpyM M (c2 + 1) 1) c2 1 1) 54 0 54 (85 * (k + 1)) 85) 63 k 1 54 (85 * (k + 1) + i) = M 54 (0 + i) := fun i q0 q1 => by
      rw [mupd_ne _ _ _ (by decide)]
      unfold mcpy
      rw [if_pos ⟨rfl, by omega, by omega⟩, m54]
      congr 1
      omega
    have g54 : ∀ i : Int, (i < 85 * (k + 1) ∨ 85 * (k + 1) + 85 ≤ i) → mupd (mcpy (mupd (cpyM M (c2 + 1) 1) c2 1 1) 54 0 54 (85 * (k + 1)) 85) 63 k 1 54 i = M 54 i := fun i q => by
      rw [mupd_ne _ _ _ (by decide)]
      unfold mcpy
      rw [if_neg (by omega), m54]
    generalize mupd (mcpy (mupd (cpyM M (c2 + 1) 1) c2 1 1) 54 0 54 (85 * (k + 1)) 85) 63 k 1 = m at e e1 f1 f63 f54 g54
    have own := keep_own i1 i2 hk e1 f1 (by rw [f63, fup_at]) f54
    have l := i1.2.1
    have n := i1.2.2.2.1
    have im : ImI m 17 18 0 85 ∧ ImI m 26 27 1 170 := by
      rcases hk with ⟨a, b⟩ | ⟨a, b⟩
      · subst b
        rw [a] at own f63 g54
        exact ⟨own, ImI_fr2 i4 (e 26 (by omega) (by decide) (by decide)) (by rw [f63, fup_ne _ _ (by decide)]) (fun j q0 q1 => e j (by omega) (by omega) (by omega)) (fun i q0 q1 => g54 i (by omega))⟩
      · subst b
        rw [a] at own f63 g54
        exact ⟨ImI_fr2 i3 (e 17 (by omega) (by decide) (by decide)) (by rw [f63, fup_ne _ _ (by decide)]) (fun j q0 q1 => e j (by omega) (by omega) (by omega)) (fun i q0 q1 => g54 i (by omega)), own⟩
    refine ⟨Cht_eq i1 (fun j q0 q1 => e j (by omega) (by omega) (by omega)), Pg_fr i2 n.2 l.2 (fun j q0 q1 => e j (by omega) (by omega) (by omega)) (fun i q0 q1 => g54 i (by omega)), im.1, im.2, ?_, ?_, ?_, ?_, ?_, ?_⟩
    · exact TaI_fr i5 (by rw [e 35 (by omega) (by omega) (by omega)]) (by rw [e 35 (by omega) (by omega) (by omega)]) (by rw [e 53 (by omega) (by omega) (by omega)]) (by rw [e 53 (by omega) (by omega) (by omega)]) (e 56 (by omega) (by omega) (by omega)) (e 36 (by omega) (by omega) (by omega))
    · exact SeI_fr i6 (by rw [e 0 (by omega) (by omega) (by omega)]) (by rw [e 53 (by omega) (by omega) (by omega)]) (e 60 (by omega) (by omega) (by omega)) (e 40 (by omega) (by omega) (by omega)) (e 41 (by omega) (by omega) (by omega))
    · exact ShI_fr i7 (fun j hk => e j (by omega) (by omega) (by omega))
    · rw [e 0 (by omega) (by omega) (by omega), e 53 (by omega) (by omega) (by omega)]
      exact i8
    · rw [e 57 (by omega) (by omega) (by omega)]
      exact i9
    · rw [e 58 (by omega) (by omega) (by omega)]
      exact i10
  · exact ⟨-1, M, M, ⟨⟨by decide, Nat.le_of_ble_eq_true rfl⟩, fun K hK => q_L_keep_0 hK k M (br_f (by omega) (br_f (by omega) (mret_i rfl rfl)))⟩, ⟨⟨by decide, Nat.le_of_ble_eq_true rfl⟩, fun K hK => q_M_keep_0 hK k M ⟨_, _, R_in 8 _ _ _ _, br_f (fun q => c (by have q := b2_n0.mp q; omega)) (mret_i rfl rfl)⟩⟩, h⟩
