/-! PURE PROOFS 23: law, stitch, rule, count -/
theorem P_law {M : mMem} (h : Inv M) (l x : Int) : PairI 52 140 [vi l, vi x] M := by
  have hc := h.1
  have hp := Pg0_of h.2.1
  have n0 : 0 ≤ M 1 5 ∧ M 1 5 ≤ 5 := hc.2.1
  have p3 : M 54 39 = M 1 5 := hp.2.2.1
  by_cases c : (0 ≤ l ∧ l < M 1 5) ∧ 0 ≤ x ∧ x ≤ 5
  · have pl := Pg_law h.2.1 hc
    by_cases c4 : x < 4
    · have i0 : w32 (w32 (l * 4) + x) = 4 * l + x := by
        rw [w32_s (z := l * 4) (by omega) (by omega), w32_s (by omega) (by omega)]
        omega
      have i1 : w32 (w32 (40 + w32 (5 * x)) + l) = 40 + 5 * x + l := by rw [w32_s (z := 5 * x) (by omega) (by omega), w32_s (z := 40 + 5 * x) (by omega) (by omega), w32_s (by omega) (by omega)]
      have g4 : M 54 (40 + 5 * x + l) = M 4 (4 * l + x) := hp.2.2.2.1 l x c.1.1 c.1.2 (by omega) (by omega)
      refine ⟨M 4 (4 * l + x), M, M, ⟨⟨by decide, Nat.le_of_ble_eq_true rfl⟩, fun K hK => q_L_law_0 hK l x M ⟨_, _, R_isLaw 8 M l, br_f (fun z => b2_0.mp z c.1) (br_f (by omega) (br_t c.2.2 (br_f (by omega) ?_)))⟩⟩, ⟨⟨by decide, Nat.le_of_ble_eq_true rfl⟩, fun K hK => q_M_law_0 hK l x M ⟨_, _, R_mIsLaw 7 M l (by rw [p3]; exact n0), br_f (fun z => b2_0.mp z (by rw [p3]; exact c.1)) ⟨_, _, R_in 8 _ _ _ _, br_t (b2_n0.mpr (by omega)) (br_f (by omega) ?_)⟩⟩⟩, h⟩
      · rw [i0]
        exact mIn_i (by omega) (by omega) (mret_i rfl rfl)
      · rw [i1, g4]
        exact mIn_i (by omega) (by omega) (mret_i rfl rfl)
    · by_cases c5 : x = 4
      · have g := R_readsOn 7 M 0 l 0 (M 1 5) (by omega) pl c.1 n0.2 (Or.inl rfl)
        rw [if_pos rfl] at g
        exact ⟨_, M, M, ⟨⟨by decide, Nat.le_of_ble_eq_true rfl⟩, fun K hK => q_L_law_0 hK l x M ⟨_, _, R_isLaw 8 M l, br_f (fun z => b2_0.mp z c.1) (br_f (by omega) (br_t c.2.2 (br_t (by omega) (br_f (fun z => z c5) ⟨_, _, R_reads 7 M 1 (by omega) l (M 1 5) hc.1 hc.2.2.1 c.1 n0.2, mret_i rfl rfl⟩))))⟩⟩, ⟨⟨by decide, Nat.le_of_ble_eq_true rfl⟩, fun K hK => q_M_law_0 hK l x M ⟨_, _, R_mIsLaw 7 M l (by rw [p3]; exact n0), br_f (fun z => b2_0.mp z (by rw [p3]; exact c.1)) ⟨_, _, R_in 8 _ _ _ _, br_t (b2_n0.mpr (by omega)) (br_t (by omega) (br_t (by omega) ⟨_, _, g, mret_i (Pg_rd h.2.1 c.1.1 c.1.2) rfl⟩))⟩⟩⟩, h⟩
      · have g := R_readsOn 7 M 0 l 1 (M 1 5) (by omega) pl c.1 n0.2 (Or.inr rfl)
        rw [if_neg (by decide)] at g
        exact ⟨_, M, M, ⟨⟨by decide, Nat.le_of_ble_eq_true rfl⟩, fun K hK => q_L_law_0 hK l x M ⟨_, _, R_isLaw 8 M l, br_f (fun z => b2_0.mp z c.1) (br_f (by omega) (br_t c.2.2 (br_t (by omega) (br_t c5 ⟨_, _, R_readsByBack 7 M 1 (by omega) l (M 1 5) hc.1 hc.2.2.1 c.1 n0.2, mret_i rfl rfl⟩))))⟩⟩, ⟨⟨by decide, Nat.le_of_ble_eq_true rfl⟩, fun K hK => q_M_law_0 hK l x M ⟨_, _, R_mIsLaw 7 M l (by rw [p3]; exact n0), br_f (fun z => b2_0.mp z (by rw [p3]; exact c.1)) ⟨_, _, R_in 8 _ _ _ _, br_t (b2_n0.mpr (by omega)) (br_t (by omega) (br_f (fun z => z (by omega)) ⟨_, _, g, mret_i (Pg_rdB h.2.1 c.1.1 c.1.2) rfl⟩))⟩⟩⟩, h⟩
  · refine ⟨-1, M, M, ⟨⟨by decide, Nat.le_of_ble_eq_true rfl⟩, fun K hK => q_L_law_0 hK l x M ⟨_, _, R_isLaw 8 M l, ⟨fun _ => mret_i rfl rfl, fun q => ⟨fun _ => mret_i rfl rfl, fun q2 => br_f (fun q3 => c ⟨b2_n0.mp q, by omega⟩) (mret_i rfl rfl)⟩⟩⟩⟩, ⟨⟨by decide, Nat.le_of_ble_eq_true rfl⟩, fun K hK => q_M_law_0 hK l x M ⟨_, _, R_mIsLaw 7 M l (by rw [p3]; exact n0), ⟨fun _ => mret_i rfl rfl, fun q => ⟨_, _, R_in 8 _ _ _ _, br_f (fun q2 => ?_) (mret_i rfl rfl)⟩⟩⟩⟩, h⟩
    have q := b2_n0.mp q
    have q2 := b2_n0.mp q2
    rw [p3] at q
    exact c ⟨q, by omega⟩
theorem P_stitch {M : mMem} (h : Inv M) (i x : Int) : PairI 53 141 [vi i, vi x] M := by
  have hc := h.1
  have hp := Pg0_of h.2.1
  have n0 : 0 ≤ M 1 6 ∧ M 1 6 ≤ 8 := hc.2.2.2.1
  have p5 : M 54 60 = M 1 6 := hp.2.2.2.2.1
  have w : w32 (M 54 60 - 1) = M 1 6 - 1 := by rw [p5, w32_s (by omega) (by omega)]
  by_cases c1 : 0 ≤ i ∧ i < M 1 6
  · by_cases c2 : 0 ≤ x ∧ x ≤ 2
    · have g : 6 * M 54 (61 + 3 * i) + M 54 (62 + 3 * i) = M 5 i ∧ (0 ≤ M 54 (62 + 3 * i) ∧ M 54 (62 + 3 * i) < 6) ∧ M 54 (63 + 3 * i) = M 6 i := hp.2.2.2.2.2 i c1.1 c1.2
      have r : (0 ≤ M 5 i ∧ M 5 i < 36) ∧ 1 ≤ M 6 i ∧ M 6 i ≤ 3 := hc.2.2.2.2.1 i c1.1 c1.2
      have i1 : w32 (w32 (61 + w32 (3 * i)) + x) = 61 + 3 * i + x := by rw [w32_s (z := 3 * i) (by omega) (by omega), w32_s (z := 61 + 3 * i) (by omega) (by omega), w32_s (by omega) (by omega)]
      refine ⟨M 54 (61 + 3 * i + x), M, M, ⟨⟨by decide, Nat.le_of_ble_eq_true rfl⟩, fun K hK => q_L_stitch_0 hK i x M (br_f (by omega) (br_t c1.2 ⟨⟨fun q => mIn_i (by omega) (by omega) (mret_i ?_ rfl), fun q => mIn_i (by omega) (by omega) (mret_i ?_ rfl), fun q => mIn_i (by omega) (by omega) (mret_i ?_ rfl), trivial⟩, fun q => mret_i (by omega) rfl⟩))⟩, ⟨⟨by decide, Nat.le_of_ble_eq_true rfl⟩, fun K hK => q_M_stitch_0 hK i x M ⟨_, _, R_in 8 _ _ _ _, br_f (fun q => b2_0.mp q (by rw [w]; omega)) ⟨_, _, R_in 8 _ _ _ _, br_f (fun q => b2_0.mp q (by omega)) ?_⟩⟩⟩, h⟩
      · rw [show 61 + 3 * i + x = 61 + 3 * i by omega, jdiv_nn r.1.1 (by omega) (by omega)]
        omega
      · rw [show 61 + 3 * i + x = 62 + 3 * i by omega, jrem_nn r.1.1]
        omega
      · rw [show 61 + 3 * i + x = 63 + 3 * i by omega]
        exact g.2.2.symm
      · rw [i1]
        exact mIn_i (by omega) (by omega) (mret_i rfl rfl)
    · refine ⟨-1, M, M, ⟨⟨by decide, Nat.le_of_ble_eq_true rfl⟩, fun K hK => q_L_stitch_0 hK i x M (br_f (by omega) (br_t c1.2 ⟨⟨fun q => mIn_i (by omega) (by omega) (mret_i (by omega) rfl), fun q => mIn_i (by omega) (by omega) (mret_i (by omega) rfl), fun q => mIn_i (by omega) (by omega) (mret_i (by omega) rfl), trivial⟩, fun q => mret_i rfl rfl⟩))⟩, ⟨⟨by decide, Nat.le_of_ble_eq_true rfl⟩, fun K hK => q_M_stitch_0 hK i x M ⟨_, _, R_in 8 _ _ _ _, br_f (fun q => b2_0.mp q (by rw [w]; omega)) ⟨_, _, R_in 8 _ _ _ _, br_t (b2_f (by omega)) (mret_i rfl rfl)⟩⟩⟩, h⟩
  · refine ⟨-1, M, M, ⟨⟨by decide, Nat.le_of_ble_eq_true rfl⟩, fun K hK => q_L_stitch_0 hK i x M ⟨fun _ => mret_i rfl rfl, fun q => br_f (by omega) (mret_i rfl rfl)⟩⟩, ⟨⟨by decide, Nat.le_of_ble_eq_true rfl⟩, fun K hK => q_M_stitch_0 hK i x M ⟨_, _, R_in 8 _ _ _ _, br_t (b2_f (by rw [w]; omega)) (mret_i rfl rfl)⟩⟩, h⟩
def colS (f : Int → Int) (n : Nat) : Int := sm (fun k => b2 (1 ≤ f (k : Nat) ∧ f (k : Nat) ≤ 3)) n
theorem col_split {f : Int → Int} (h : celOK f) : ∀ n : Nat, n ≤ 36 → cO f 0 n + cO f 4 n + colS f n = n
  | 0, _ => rfl
  | n + 1, q => by
    have h1 := col_split h n (by omega)
    have r := h (n : Int) (by omega) (by omega)
    have e1 : cO f 0 (n + 1) = cO f 0 n + b2 (f (n : Nat) = 0) := rfl
    have e2 : cO f 4 (n + 1) = cO f 4 n + b2 (f (n : Nat) = 4) := rfl
    have e3 : colS f (n + 1) = colS f n + b2 (1 ≤ f (n : Nat) ∧ f (n : Nat) ≤ 3) := rfl
    have e : b2 (f (n : Nat) = 0) + b2 (f (n : Nat) = 4) + b2 (1 ≤ f (n : Nat) ∧ f (n : Nat) ≤ 3) = 1 := by
      unfold b2
      split <;> split <;> split <;> omega
    omega
theorem colS_rng (f : Int → Int) (n : Nat) : 0 ≤ colS f n ∧ colS f n ≤ n := sm_rng (fun k => by
  have h := b2_01 (1 ≤ f (k : Nat) ∧ f (k : Nat) ≤ 3)
  omega) n
theorem rule_loop {M : mMem} {ret : Option mVal → mHp → Prop} {lim : Nat × Nat} {scr : Nat × (Nat → Int)} {K : Nat → mLV → List mVal → mHp → Prop} (hK : mClo m_M_rule (mR3 9) lim scr ret K) (x : Int) (h : K 4 [(0, vr 53), (1, vi x), (2, vi (colS (M 54) 36)), (3, vi 36)] [] (S0, M)) : K 4 [(0, vr 53), (1, vi x), (2, vi 0), (3, vi 0)] [] (S0, M) := by
  have loop : ∀ (j k : Nat), k + j = 36 → K 4 [(0, vr 53), (1, vi x), (2, vi (colS (M 54) k)), (3, vi (k : Int))] [] (S0, M) := by
    intro j
    induction j with
    | zero =>
      intro k hk
      rw [show k = 36 by omega]
      exact h
    | succ j ih =>
      intro k hk
      have h1 := ih (k + 1) (by omega)
      have e4 : w32 ((k : Int) + 1) = ((k + 1 : Nat) : Int) := by rw [w32_s (by omega) (by omega)]; omega
      have r0 := colS_rng (M 54) k
      have e5 : colS (M 54) (k + 1) = colS (M 54) k + b2 (1 ≤ M 54 (k : Nat) ∧ M 54 (k : Nat) ≤ 3) := rfl
      rw [e5] at h1
      generalize colS (M 54) k = s at h1 r0 ⊢
      have hz : ∃ z : Int, z = (k : Int) := ⟨_, rfl⟩
      obtain ⟨z, hz⟩ := hz
      rw [← hz] at h1 e4 ⊢
      refine q_M_rule_4 hK x _ _ M (br_f (by omega) ?_)
      rw [e4, w32_s (z := s + 0) (by omega) (by omega), w32_s (z := s + 1) (by omega) (by omega)]
      refine mIn_i (by omega) (by omega) ⟨_, _, R_mIsColour 7 M _, fun q => ?_, fun q => ?_⟩
      · rw [q] at h1
        exact h1
      · rw [b2_t (c := 1 ≤ M 54 z ∧ M 54 z ≤ 3) (b2_n0.mp q)] at h1
        exact h1
  exact loop 36 0 (by omega)
theorem P_rule {M : mMem} (h : Inv M) (x : Int) : PairI 49 137 [vi x] M := by
  have hc := h.1
  have hp := Pg0_of h.2.1
  have n0 : 0 ≤ M 1 5 ∧ M 1 5 ≤ 5 := hc.2.1
  have p3 : M 54 39 = M 1 5 := hp.2.2.1
  have p5 : M 54 60 = M 1 6 := hp.2.2.2.2.1
  obtain ⟨n, hn⟩ : ∃ n : Nat, M 1 5 = n := ⟨(M 1 5).toNat, by omega⟩
  have hL := hc.2.2.1
  have pl := Pg_law h.2.1 hc
  rw [hn] at hL pl
  have s1 := col_split hc.1.1 36 (by omega)
  have r1 := cO_rng (M 2) 0 36
  have r4 := cO_rng (M 2) 4 36
  have e2 : colS (M 54) 36 = colS (M 2) 36 := sm_cong (fun k hk => by rw [hp.1 (k : Int) (by omega) (by omega)])
  have e4 : cO (pg M 0) 4 36 = cO (M 2) 4 36 := cO_cong (fun i h0 h1 => by
    show M 54 (0 + i) = M 2 i
    rw [Int.zero_add]
    exact hp.1 i h0 h1)
  have s1 : cO (M 2) 0 36 + cO (M 2) 4 36 + colS (M 2) 36 = 36 := s1
  by_cases c : 0 ≤ x ∧ x < 6
  · refine ⟨if x = 0 then M 1 5 else if x = 1 then colS (M 2) 36 else if x = 2 then cO (M 2) 4 36 else if x = 3 then M 1 6 else if x = 4 then hbF (fun l => rdL (M (1 + 3)) (M (1 + 1)) l) n else woS (M (1 + 3)) (M (1 + 1)) n, M, M, ⟨⟨by decide, Nat.le_of_ble_eq_true rfl⟩, fun K hK => q_L_rule_0 hK x M ⟨⟨fun q => ?_, fun q => ⟨_, _, R_cellsOf 8 M 1 (by omega) 0, _, _, R_cellsOf 8 M 1 (by omega) 4, ?_⟩, fun q => ⟨_, _, R_cellsOf 8 M 1 (by omega) 4, ?_⟩, fun q => ?_, fun q => ⟨_, _, R_heldBits 6 M 1 (by omega) n hn (by omega) hc.1 hL, ?_⟩, fun q => ⟨_, _, R_worth 6 M 1 (by omega) n hn (by omega) hc.1 hL, ?_⟩, trivial⟩, fun q => ?_⟩⟩, ⟨⟨by decide, Nat.le_of_ble_eq_true rfl⟩, fun K hK => q_M_rule_0 hK x M (rule_loop hK x (q_M_rule_4 hK x _ _ M (br_t (by decide) ⟨⟨fun q => ?_, fun q => ?_, fun q => ⟨_, _, R_holesOn 8 M 0 (by omega), ?_⟩, fun q => ?_, fun q => ⟨_, _, R_heldOn 6 M 0 n (by omega) (by rw [Int.zero_add, p3, hn]) (by omega) pl, ?_⟩, fun q => ⟨_, _, R_worthOn 6 M 0 n (by omega) (by rw [Int.zero_add, p3, hn]) (by omega) pl, ?_⟩, trivial⟩, fun q => ?_⟩)))⟩, h⟩
    · exact mret_i (if_pos q).symm rfl
    · rw [if_neg (by omega), if_pos (by omega)]
      refine mret_i ?_ rfl
      show w32 (w32 (36 - cO (M 2) 0 36) - cO (M 2) 4 36) = colS (M 2) 36
      rw [w32_s (z := 36 - cO (M 2) 0 36) (by omega) (by omega), w32_s (by omega) (by omega)]
      omega
    · rw [if_neg (by omega), if_neg (by omega), if_pos (by omega)]
      exact mret_i rfl rfl
    · rw [if_neg (by omega), if_neg (by omega), if_neg (by omega), if_pos (by omega)]
      exact mret_i rfl rfl
    · rw [if_neg (by omega), if_neg (by omega), if_neg (by omega), if_neg (by omega), if_pos (by omega)]
      exact mret_i rfl rfl
    · rw [if_neg (by omega), if_neg (by omega), if_neg (by omega), if_neg (by omega), if_neg (by omega)]
      exact mret_i rfl rfl
    · exact absurd q (by omega)
    · rw [if_pos (by omega)]
      exact mret_i p3 rfl
    · rw [if_neg (by omega), if_pos (by omega)]
      exact mret_i e2 rfl
    · rw [if_neg (by omega), if_neg (by omega), if_pos (by omega)]
      exact mret_i e4 rfl
    · rw [if_neg (by omega), if_neg (by omega), if_neg (by omega), if_pos (by omega)]
      exact mret_i p5 rfl
    · rw [if_neg (by omega), if_neg (by omega), if_neg (by omega), if_neg (by omega), if_pos (by omega)]
      exact mret_i (Pg_hb h.2.1 hn) rfl
    · rw [if_neg (by omega), if_neg (by omega), if_neg (by omega), if_neg (by omega), if_neg (by omega)]
      exact mret_i (Pg_wo h.2.1 hn) rfl
    · exact absurd q (by omega)
  · refine ⟨-1, M, M, ⟨⟨by decide, Nat.le_of_ble_eq_true rfl⟩, fun K hK => q_L_rule_0 hK x M ⟨⟨fun q => absurd q (by omega), fun q => absurd q (by omega), fun q => absurd q (by omega), fun q => absurd q (by omega), fun q => absurd q (by omega), fun q => absurd q (by omega), trivial⟩, fun q => mret_i rfl rfl⟩⟩, ⟨⟨by decide, Nat.le_of_ble_eq_true rfl⟩, fun K hK => q_M_rule_0 hK x M (rule_loop hK x (q_M_rule_4 hK x _ _ M (br_t (by decide) ⟨⟨fun q => absurd q (by omega), fun q => absurd q (by omega), fun q => absurd q (by omega), fun q => absurd q (by omega), fun q => absurd q (by omega), fun q => absurd q (by omega), trivial⟩, fun q => mret_i rfl rfl⟩)))⟩, h⟩
