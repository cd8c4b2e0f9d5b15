/-! PURE PROOFS 24: count, see -/
def lrC (f : Int → Int) (n : Nat) : Int := sm (fun k => b2 (f (k : Nat) = 1 ∧ f ((k : Nat) + 6) = 0)) n
def lrM (M : mMem) (f : Int → Int) : Nat → mMem
  | 0 => M
  | n + 1 => if f (n : Nat) = 1 ∧ f ((n : Nat) + 6) = 0 then mupd (lrM M f n) 59 (lrC f n) (n : Nat) else lrM M f n
theorem lrM_ne (M : mMem) (f : Int → Int) {k : Nat} (h : k ≠ 59) : ∀ n : Nat, lrM M f n k = M k
  | 0 => rfl
  | n + 1 => by
    show (if f (n : Nat) = 1 ∧ f ((n : Nat) + 6) = 0 then mupd (lrM M f n) 59 (lrC f n) (n : Nat) else lrM M f n) k = M k
    split
    · rw [mupd_ne _ _ _ h]
      exact lrM_ne M f h n
    · exact lrM_ne M f h n
theorem lrC_rng (f : Int → Int) (n : Nat) : 0 ≤ lrC f n ∧ lrC f n ≤ n := sm_rng (fun k => by
  have h := b2_01 (f (k : Nat) = 1 ∧ f ((k : Nat) + 6) = 0)
  omega) n
theorem R_laysRunning (d : Nat) (M : mMem) : mR3 (d + 1) 168 [vr 53] (S0, M) (some (vi (lrC (M 54) 30)), (S0, lrM M (M 54) 30)) := by
  refine ⟨⟨by decide, Nat.le_of_ble_eq_true rfl⟩, fun K hK => q_M_laysRunning_0 hK M ?_⟩
  have loop : ∀ (j k : Nat), k + j = 30 → K 4 [(0, vr 53), (1, vi (lrC (M 54) k)), (2, vi (k : Int))] [] (S0, lrM M (M 54) k) := by
    intro j
    induction j with
    | zero =>
      intro k hk
      refine q_M_laysRunning_4 hK _ _ _ (br_t (by omega) (mret_i ?_ ?_))
      · rw [show k = 30 by omega]
      · rw [show k = 30 by omega]
    | succ j ih =>
      intro k hk
      have h1 := ih (k + 1) (by omega)
      have r0 := lrC_rng (M 54) k
      have e4 : w32 ((k : Int) + 1) = ((k + 1 : Nat) : Int) := by rw [w32_s (by omega) (by omega)]; omega
      have e5 : lrC (M 54) (k + 1) = lrC (M 54) k + b2 (M 54 (k : Nat) = 1 ∧ M 54 ((k : Nat) + 6) = 0) := rfl
      have e6 : lrM M (M 54) (k + 1) = if M 54 (k : Nat) = 1 ∧ M 54 ((k : Nat) + 6) = 0 then mupd (lrM M (M 54) k) 59 (lrC (M 54) k) (k : Nat) else lrM M (M 54) k := rfl
      have e7 : lrM M (M 54) k 54 = M 54 := lrM_ne M _ (by decide) k
      rw [e5, e6] at h1
      generalize lrC (M 54) k = s at h1 r0 ⊢
      generalize lrM M (M 54) k = m at h1 e7 ⊢
      have hz : ∃ z : Int, z = (k : Int) := ⟨_, rfl⟩
      obtain ⟨z, hz⟩ := hz
      rw [← hz] at h1 e4 ⊢
      have e8 : w32 (z + 6) = z + 6 := w32_s (by omega) (by omega)
      refine q_M_laysRunning_4 hK _ _ _ (br_f (by omega) ?_)
      rw [e4, e8, e7, w32_s (z := s + 1) (by omega) (by omega)]
      refine mIn_i (by omega) (by omega) ⟨fun q => ?_, fun q => mIn_i (by omega) (by omega) ⟨fun q2 => ?_, fun q2 => mIn_i (by omega) (by omega) ?_⟩⟩
      · rw [b2_f (fun y => q y.1), if_neg (fun y => q y.1), Int.add_zero] at h1
        exact h1
      · rw [b2_f (fun y => q2 y.2), if_neg (fun y => q2 y.2), Int.add_zero] at h1
        exact h1
      · have y : M 54 z = 1 ∧ M 54 (z + 6) = 0 := ⟨Decidable.not_not.mp q, Decidable.not_not.mp q2⟩
        rw [b2_t y, if_pos y] at h1
        exact h1
  exact loop 30 0 (by omega)
theorem sh_at : ∀ k : Nat, k < 4 → S0.2.lookup (38, k) = some (45 + 2 * k) := by decide +kernel
theorem Inv_59 {M : mMem} (h : Inv M) (n : Nat) : Inv (lrM M (M 54) n) := by
  refine Inv_fr h ⟨fun k q => lrM_ne M _ (by unfold kept at q; omega) n, ?_, ?_, ?_, ?_, ?_, ?_, ?_, ?_, fun i _ _ => ?_⟩
  all_goals rw [lrM_ne M _ (by decide) n]
theorem P_count {M : mMem} (h : Inv M) (x : Int) : PairI 86 189 [vi x] M := by
  have hc := h.1
  have hp := Pg0_of h.2.1
  have i1 := h.2.2.1
  have i2 := h.2.2.2.1
  have ht := h.2.2.2.2.1
  have hs := h.2.2.2.2.2.1
  have hh : ShI M 0 := h.2.2.2.2.2.2.1 0 (by decide)
  have a1 : M 63 0 = M 17 1 := i1.2.1
  have a2 : M 63 1 = M 26 1 := i2.2.1
  have b1 : M 17 1 = 0 ∨ M 17 1 = 1 := i1.1
  have b2' : M 26 1 = 0 ∨ M 26 1 = 1 := i2.1
  have s1 : 0 ≤ M 3 1 ∧ M 3 1 ≤ 99 := hc.2.2.2.2.2 1 (by decide) (by decide)
  have s2 : 0 ≤ M 3 2 ∧ M 3 2 ≤ 99 := hc.2.2.2.2.2 2 (by decide) (by decide)
  have s3 : 0 ≤ M 3 3 ∧ M 3 3 ≤ 99 := hc.2.2.2.2.2 3 (by decide) (by decide)
  have t1 : M 54 36 + 20 = M 3 1 := hp.2.1 1 (by decide) (by decide)
  have t2 : M 54 37 + 20 = M 3 2 := hp.2.1 2 (by decide) (by decide)
  have t3 : M 54 38 + 20 = M 3 3 := hp.2.1 3 (by decide) (by decide)
  have u1 : M 53 5 = M 35 1 := ht.2.1
  have u2 : M 53 22 = M 0 13 := hs.2.1
  have sh : (M 45 2 = -1 ∧ M 64 0 = -4) ∨ (0 ≤ M 45 2 ∧ M 64 0 ≠ -4 ∧ M 65 0 = M 45 2) := by
    rcases hh with g | g
    · exact Or.inl g
    · have g1 : 0 ≤ M 45 2 ∧ M 45 2 ≤ 40 := g.1
      have g2 : 0 ≤ M 45 1 ∧ M 45 1 ≤ 2 := g.2.1
      have g3 : M 64 0 = M 45 1 := g.2.2.1
      have g4 : M 65 0 = M 45 2 := g.2.2.2.1
      exact Or.inr ⟨g1.1, by omega, g4⟩
  have loop : ∀ {K : Nat → mLV → List mVal → mHp → Prop} {lim : Nat × Nat} {scr : Nat × (Nat → Int)} {ret : Option mVal → mHp → Prop}, mClo m_M_count (mR3 9) lim scr ret K → K 4 [(0, vr 53), (1, vi x), (2, vi (M 3 1 + M 3 2 + M 3 3)), (3, vi 3)] [] (S0, M) → K 0 [(0, vr 53), (1, vi x)] [] (S0, M) := by
    intro K lim scr ret hK h3
    have k2 : K 4 [(0, vr 53), (1, vi x), (2, vi (M 3 1 + M 3 2)), (3, vi 2)] [] (S0, M) := by
      refine q_M_count_4 hK x _ _ M (br_f (by decide) (mIn_i (by decide) (by decide) ?_))
      rw [show w32 (36 + 2) = 38 from rfl, show w32 (2 + 1) = 3 from rfl, t3, w32_s (z := M 3 3) (by omega) (by omega), w32_s (by omega) (by omega)]
      exact h3
    have k1 : K 4 [(0, vr 53), (1, vi x), (2, vi (M 3 1)), (3, vi 1)] [] (S0, M) := by
      refine q_M_count_4 hK x _ _ M (br_f (by decide) (mIn_i (by decide) (by decide) ?_))
      rw [show w32 (36 + 1) = 37 from rfl, show w32 (1 + 1) = 2 from rfl, t2, w32_s (z := M 3 2) (by omega) (by omega), w32_s (by omega) (by omega)]
      exact k2
    have k0 : K 4 [(0, vr 53), (1, vi x), (2, vi 0), (3, vi 0)] [] (S0, M) := by
      refine q_M_count_4 hK x _ _ M (br_f (by decide) (mIn_i (by decide) (by decide) ?_))
      rw [show w32 (36 + 0) = 36 from rfl, show w32 (0 + 1) = 1 from rfl, t1, w32_s (z := M 3 1) (by omega) (by omega), Int.zero_add, w32_s (by omega) (by omega)]
      exact k1
    exact q_M_count_0 hK x M k0
  by_cases c : 0 ≤ x ∧ x < 6
  · by_cases c5 : x = 5
    · refine ⟨cB (M (1 + 1)) 1 0, M, lrM M (M 54) 30, ⟨⟨by decide, Nat.le_of_ble_eq_true rfl⟩, fun K hK => q_L_count_0 hK x M ⟨⟨fun q => absurd q (by omega), fun q => absurd q (by omega), fun q => absurd q (by omega), fun q => absurd q (by omega), fun q => absurd q (by omega), fun q => ⟨_, _, R_runningCells 8 M 1 (by omega) hc.1, mret_i rfl rfl⟩, trivial⟩, fun q => absurd q (by omega)⟩⟩, ⟨⟨by decide, Nat.le_of_ble_eq_true rfl⟩, fun K hK => loop hK (q_M_count_4 hK x _ _ M (br_t (by decide) ⟨⟨fun q => absurd q (by omega), fun q => absurd q (by omega), fun q => absurd q (by omega), fun q => absurd q (by omega), fun q => absurd q (by omega), fun q => ⟨_, _, R_laysRunning 8 M, mret_i ?_ rfl⟩, trivial⟩, fun q => absurd q (by omega)⟩))⟩, Inv_59 h 30⟩
      exact cB_cong hp.1 1 0
    · have f3 : M 64 0 = -4 → M 45 2 = -1 := by
        intro q
        rcases sh with g | g
        · exact g.1
        · exact absurd q g.2.1
      have f4 : M 64 0 ≠ -4 → 0 ≤ M 45 2 ∧ M 65 0 = M 45 2 := by
        intro q
        rcases sh with g | g
        · exact absurd g.2 q
        · exact ⟨g.1, g.2.2⟩
      refine ⟨if x = 0 then M 0 13 else if x = 1 then M 17 1 + M 26 1 else if x = 2 then M 35 1 else if x = 3 then (if 0 ≤ M 45 2 then M 45 2 else -4) else M 3 1 + M 3 2 + M 3 3, M, M, ⟨⟨by decide, Nat.le_of_ble_eq_true rfl⟩, fun K hK => q_L_count_0 hK x M ⟨⟨fun q => ?_, fun q => ?_, fun q => ?_, fun q => ⟨45, sh_at 0 (by decide), q_L_count_91 hK 45 M (Or.inl rfl) ⟨fun q2 => ⟨45, sh_at 0 (by decide), q_L_count_108 hK 45 M (Or.inl rfl) ?_⟩, fun q2 => ?_⟩⟩, fun q => ?_, fun q => absurd q (by omega), trivial⟩, fun q => absurd q (by omega)⟩⟩, ⟨⟨by decide, Nat.le_of_ble_eq_true rfl⟩, fun K hK => loop hK (q_M_count_4 hK x _ _ M (br_t (by decide) ⟨⟨fun q => ?_, fun q => ?_, fun q => ?_, fun q => ⟨fun q2 => ?_, fun q2 => ?_⟩, fun q => ?_, fun q => absurd q (by omega), trivial⟩, fun q => absurd q (by omega)⟩))⟩, h⟩
      · exact mret_i (if_pos q).symm rfl
      · refine ⟨fun y => q_L_count_60 hK 0 M ⟨fun y2 => mret_i ?_ rfl, fun y2 => mret_i ?_ rfl⟩, fun y => q_L_count_60 hK 1 M ⟨fun y2 => mret_i ?_ rfl, fun y2 => mret_i ?_ rfl⟩⟩
        all_goals (rw [if_neg (by omega), if_pos (by omega), w32_s (by omega) (by omega)]; omega)
      · rw [if_neg (by omega), if_neg (by omega), if_pos (by omega)]
        exact mret_i rfl rfl
      · rw [if_neg (by omega), if_neg (by omega), if_neg (by omega), if_pos (by omega), if_pos q2]
        exact mret_i rfl rfl
      · rw [if_neg (by omega), if_neg (by omega), if_neg (by omega), if_pos (by omega), if_neg q2]
        exact mret_i rfl rfl
      · rw [if_neg (by omega), if_neg (by omega), if_neg (by omega), if_neg (by omega)]
        refine mret_i ?_ rfl
        rw [w32_s (z := M 3 1 + M 3 2) (by omega) (by omega), w32_s (by omega) (by omega)]
      · rw [if_pos (by omega)]
        exact mret_i u2 rfl
      · refine ⟨fun y => q_M_count_87 hK 0 M ⟨fun y2 => mret_i ?_ rfl, fun y2 => mret_i ?_ rfl⟩, fun y => q_M_count_87 hK 1 M ⟨fun y2 => mret_i ?_ rfl, fun y2 => mret_i ?_ rfl⟩⟩
        all_goals (rw [if_neg (by omega), if_pos (by omega), w32_s (by omega) (by omega)]; omega)
      · rw [if_neg (by omega), if_neg (by omega), if_pos (by omega)]
        exact mret_i u1 rfl
      · rw [if_neg (by omega), if_neg (by omega), if_neg (by omega), if_pos (by omega), if_pos (f4 q2).1]
        exact mret_i (f4 q2).2 rfl
      · have g := f3 (Decidable.not_not.mp q2)
        rw [if_neg (by omega), if_neg (by omega), if_neg (by omega), if_pos (by omega), if_neg (by omega)]
        exact mret_i rfl rfl
      · rw [if_neg (by omega), if_neg (by omega), if_neg (by omega), if_neg (by omega)]
        exact mret_i rfl rfl
  · refine ⟨-1, M, M, ⟨⟨by decide, Nat.le_of_ble_eq_true rfl⟩, fun K hK => q_L_count_0 hK x M ⟨⟨fun q => absurd q (by omega), fun q => absurd q (by omega), fun q => absurd q (by omega), fun q => absurd q (by omega), fun q => absurd q (by omega), fun q => absurd q (by omega), trivial⟩, fun q => mret_i rfl rfl⟩⟩, ⟨⟨by decide, Nat.le_of_ble_eq_true rfl⟩, fun K hK => loop hK (q_M_count_4 hK x _ _ M (br_t (by decide) ⟨⟨fun q => absurd q (by omega), fun q => absurd q (by omega), fun q => absurd q (by omega), fun q => absurd q (by omega), fun q => absurd q (by omega), fun q => absurd q (by omega), trivial⟩, fun q => mret_i rfl rfl⟩))⟩, h⟩
