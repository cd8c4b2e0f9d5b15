/-! PURE PROOFS 59: a first call: need, read, text -/
def Pair0 (y1 y2 : Nat) (as : List mVal) (M : mMem) : Prop := ∃ v m1 m2, mR3 10 y1 (vr 0 :: as) (S0, M) (some (vi v), (S0, m1)) ∧ mR3 10 y2 (vr 53 :: as) (S0, m1) (some (vi v), (S0, m2))
theorem PairI_0 {y1 y2 : Nat} {as : List mVal} {M : mMem} (h : PairI y1 y2 as M) : Pair0 y1 y2 as M := by
  obtain ⟨v, m1, m2, a, b, _⟩ := h
  exact ⟨v, m1, m2, a, b⟩
theorem F_need {M : mMem} (h : Inv M) (h5 : M 1 5 = 0) (l x : Int) : Pair0 66 162 [vi l, vi x] M := by
  have p3 : M 54 39 = M 1 5 := (Pg0_of h.2.1).2.2.1
  exact ⟨-1, M, M, ⟨⟨by decide, Nat.le_of_ble_eq_true rfl⟩, fun K hK => q_L_need_0 hK l x M ⟨_, _, R_isLaw 8 M l, br_t (b2_f (by omega)) (mret_i rfl rfl)⟩⟩, ⟨⟨by decide, Nat.le_of_ble_eq_true rfl⟩, fun K hK => q_M_need_0 hK l x M ⟨_, _, R_mIsLaw 7 M l (by omega), br_t (b2_f (by omega)) (mret_i rfl rfl)⟩⟩⟩
theorem F_read {M : mMem} (hs : ∀ k : Nat, k < 4 → M (45 + 2 * k) 2 = -1 ∧ M 64 k = -4) (k a f n : Int) : Pair0 84 187 [vi k, vi a, vi f, vi n] M := by
  by_cases c : (0 ≤ k ∧ k < 4) ∧ (0 ≤ a ∧ a ≤ 2) ∧ 0 ≤ n ∧ n ≤ 13
  · obtain ⟨kk, hk⟩ : ∃ kk : Nat, k = kk := ⟨k.toNat, by omega⟩
    have tn : k.toNat = kk := by omega
    have hcc : 45 + 2 * kk = 45 ∨ 45 + 2 * kk = 47 ∨ 45 + 2 * kk = 49 ∨ 45 + 2 * kk = 51 := by omega
    have sk := hs kk (by omega)
    rw [← hk] at sk
    have a1 : mI3 10 84 [vr 0, vi k, vi a, vi f, vi n] M (fun v m => v = 0 ∧ m 64 = M 64) := by
      refine mI3_i ⟨by decide, Nat.le_of_ble_eq_true rfl⟩ (fun K hK => q_L_read_0 hK k a f n M ⟨_, _, R_isSheet 8 M k, br_f (fun q => b2_0.mp q c.1) ⟨_, _, R_isLane 8 M a, br_f (fun q => b2_0.mp q c.2.1) (br_f (by omega) (br_t c.2.2.2 (mIn_i (by omega) (by omega) ⟨45 + 2 * kk, ?_, ?_⟩)))⟩⟩)
      · rw [tn]
        exact sh_at kk (by omega)
      · refine q_L_read_34 hK a f n _ M hcc ⟨_, R_copyFrom 8 M 9 1 (by unfold cpP; omega), ?_⟩
        have c2 : cpyM M 9 1 (45 + 2 * kk) = M (45 + 2 * kk) := cpy_ne M (by omega)
        have c64 : cpyM M 9 1 64 = M 64 := cpy_ne M (by omega)
        generalize cpyM M 9 1 = m at c2 c64
        have fin : ∀ t : Int, K 118 [(0, vr 0), (6, vi 0), (7, vi t)] [] (S0, m) := fun t => q_L_read_118 hK 0 t m ⟨_, R_copyFrom 8 m 1 9 (by unfold cpP; omega), rI_i ⟨rfl, by rw [mupd_ne _ _ _ (by decide), cpy_ne m (by omega), c64]⟩⟩
        have m2 : m (45 + 2 * kk) 2 = -1 := by rw [c2, sk.1]
        have g := R_faultAt 7 m _ hcc (w32 (f + w32 (3 * 0))) 3 (by omega) (by omega)
        rw [if_pos (by omega)] at g
        have fa : mR3 9 28 [vr (45 + 2 * kk), vi a, vi (w32 (f + w32 (3 * 0))), vi 3] (S0, m) (some (vi 1), (S0, m)) := ⟨⟨by decide, Nat.le_of_ble_eq_true rfl⟩, fun K hK => q_S_faultAsOf_0 hK _ a _ 3 m hcc (br_t (by omega) ⟨_, _, g, mret_i rfl rfl⟩)⟩
        refine q_L_read_56 hK a f n _ 0 0 0 m hcc ⟨fun _ => fin 0, fun _ => br_f (by decide) ⟨_, _, fa, br_t (by decide) ?_⟩⟩
        exact q_L_read_56 hK a f n _ 0 1 _ m hcc ⟨fun _ => fin 1, fun _ => br_t (by decide) (fin 1)⟩
    obtain ⟨v, m1, ⟨e, e64⟩, r1⟩ := a1
    rw [e] at r1
    have a2 : mI3 10 187 [vr 53, vi k, vi a, vi f, vi n] m1 (fun v m => v = 0) := by
      refine mI3_i ⟨by decide, Nat.le_of_ble_eq_true rfl⟩ (fun K hK => q_M_read_0 hK k a f n m1 ⟨_, _, R_in 8 _ _ _ _, br_f (fun q => b2_0.mp q (by omega)) ⟨_, _, R_in 8 _ _ _ _, br_f (fun q => b2_0.mp q (by omega)) ⟨_, _, R_in 8 _ _ _ _, br_t (b2_n0.mpr (by omega)) ⟨_, R_copies 8 m1 0 255 (by omega) (by omega) (by omega), ?_⟩⟩⟩⟩)
      have c64 : mcpy m1 54 0 54 255 85 64 k = -4 := by rw [mcpy_ne _ _ _ _ _ (by decide), e64, sk.2]
      generalize mcpy m1 54 0 54 255 85 = m at c64
      refine q_M_read_56 hK k a f n 0 0 0 m ⟨fun _ => rI_i rfl, fun _ => br_f (by decide) (mIn_i (by omega) (by omega) (br_f (fun q => q c64) ?_))⟩
      refine q_M_read_126 hK k a f n 0 0 1 m (br_t (by decide) ?_)
      exact q_M_read_56 hK k a f n 1 0 _ m ⟨fun _ => rI_i rfl, fun _ => br_t (by decide) (rI_i rfl)⟩
    obtain ⟨v2, m2, e2, r2⟩ := a2
    rw [e2] at r2
    exact ⟨0, m1, m2, r1, r2⟩
  · refine ⟨-1, M, M, ⟨⟨by decide, Nat.le_of_ble_eq_true rfl⟩, fun K hK => q_L_read_0 hK k a f n M ⟨_, _, R_isSheet 8 M k, ⟨fun _ => mret_i rfl rfl, fun q => ⟨_, _, R_isLane 8 M a, ⟨fun _ => mret_i rfl rfl, fun q1 => ⟨fun _ => mret_i rfl rfl, fun q2 => br_f (fun q3 => c ⟨b2_n0.mp q, b2_n0.mp q1, by omega⟩) (mret_i rfl rfl)⟩⟩⟩⟩⟩⟩, ⟨⟨by decide, Nat.le_of_ble_eq_true rfl⟩, fun K hK => q_M_read_0 hK k a f n M ⟨_, _, R_in 8 _ _ _ _, ⟨fun _ => mret_i rfl rfl, fun q => ⟨_, _, R_in 8 _ _ _ _, ⟨fun _ => mret_i rfl rfl, fun q1 => ⟨_, _, R_in 8 _ _ _ _, br_f (fun q2 => ?_) (mret_i rfl rfl)⟩⟩⟩⟩⟩⟩⟩
    have q := b2_n0.mp q
    have q1 := b2_n0.mp q1
    have q2 := b2_n0.mp q2
    exact c ⟨by omega, by omega, by omega⟩
