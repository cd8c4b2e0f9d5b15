/-! PURE PROOFS 28: lay -/
theorem R_faultAt (d : Nat) (M : mMem) (c : Nat) (hc : c = 45 ∨ c = 47 ∨ c = 49 ∨ c = 51) (i n : Int) (hl : -1 ≤ M c 2 ∧ M c 2 ≤ 40) (hn : 0 ≤ n ∧ n ≤ 40) : mR3 (d + 1) 29 [vr c, vi i, vi n] (S0, M) (some (vi (if M c 2 < 0 then 1 else if 0 ≤ i ∧ i ≤ M c 2 - n then 0 else 2)), (S0, M)) := by
  refine ⟨⟨by decide, Nat.le_of_ble_eq_true rfl⟩, fun K hK => q_S_faultAt_0 hK c i n M hc ?_⟩
  rw [w32_s (z := M c 2 - n) (by omega) (by omega)]
  refine ⟨fun q => ⟨fun q2 => mret_i ?_ rfl, fun q2 => ⟨fun q3 => mret_i ?_ rfl, fun q3 => mret_i ?_ rfl⟩⟩, fun q => mret_i ?_ rfl⟩
  · rw [if_neg (by omega), if_neg (by omega)]
  · rw [if_neg (by omega), if_pos (by omega)]
  · rw [if_neg (by omega), if_neg (by omega)]
  · rw [if_pos (by omega)]
def lv (l v : Int) : Int := if l = 0 then w8 v else if l = 1 then w16 v else v
theorem R_set (d : Nat) (M : mMem) (c : Nat) (hc : c = 45 ∨ c = 47 ∨ c = 49 ∨ c = 51) (i v : Int) (hi : 0 ≤ i ∧ i < 40) : mR3 (d + 1) 27 [vr c, vi i, vi v] (S0, M) (none, (S0, mupd M (c + 1) i (lv (M c 1) v))) := by
  refine ⟨⟨by decide, Nat.le_of_ble_eq_true rfl⟩, fun K hK => q_S_set_0 hK c i v M hc ⟨fun q => ⟨fun q2 => mIn_i (by omega) (by omega) (mret_n ?_), fun q2 => mIn_i (by omega) (by omega) (mret_n ?_)⟩, fun q => mIn_i (by omega) (by omega) (mret_n ?_)⟩⟩
  · unfold lv
    rw [if_neg q, if_neg q2]
  · unfold lv
    rw [if_neg q, if_pos (Decidable.not_not.mp q2)]
  · unfold lv
    rw [if_pos (Decidable.not_not.mp q)]
theorem P_lay {M : mMem} (h : Inv M) (k i v : Int) : PairI 83 186 [vi k, vi i, vi v] M := by
  by_cases c : 0 ≤ k ∧ k < 4
  · obtain ⟨kk, hk⟩ : ∃ kk : Nat, k = kk := ⟨k.toNat, by omega⟩
    have tn : k.toNat = kk := by omega
    have hcc : 45 + 2 * kk = 45 ∨ 45 + 2 * kk = 47 ∨ 45 + 2 * kk = 49 ∨ 45 + 2 * kk = 51 := by omega
    have hh := h.2.2.2.2.2.2.1
    have sh := hh kk (by omega)
    unfold ShI at sh
    rw [← hk] at sh
    have st : ∀ {K : Nat → mLV → List mVal → mHp → Prop} {lim : Nat × Nat} {scr : Nat × (Nat → Int)} {ret : Option mVal → mHp → Prop}, mClo m_L_lay (mR3 9) lim scr ret K → K 15 [(2, vi i), (3, vi v)] [vr (45 + 2 * kk)] (S0, M) → K 0 [(0, vr 0), (1, vi k), (2, vi i), (3, vi v)] [] (S0, M) := by
      intro K lim scr ret hK k15
      refine q_L_lay_0 hK k i v M ⟨_, _, R_isSheet 8 M k, br_t (b2_n0.mpr c) (mIn_i (by omega) (by omega) ⟨45 + 2 * kk, ?_, k15⟩)⟩
      rw [tn]
      exact sh_at kk (by omega)
    rcases sh with ⟨s1, s2⟩ | ⟨s1, s2, s3, s4, s5⟩
    · have g := R_faultAt 8 M _ hcc i 1 (by omega) (by omega)
      rw [if_pos (by omega)] at g
      refine ⟨-11, M, M, ⟨⟨by decide, Nat.le_of_ble_eq_true rfl⟩, fun K hK => st hK (q_L_lay_15 hK i v _ M hcc ⟨_, _, g, br_f (by decide) (mret_i rfl rfl)⟩)⟩, ⟨⟨by decide, Nat.le_of_ble_eq_true rfl⟩, fun K hK => q_M_lay_0 hK k i v M ⟨_, _, R_in 8 _ _ _ _, br_t (b2_n0.mpr (by omega)) (mIn_i (by omega) (by omega) (br_f (fun q => q s2) (mret_i rfl rfl)))⟩⟩, h⟩
    · by_cases c2 : 0 ≤ i ∧ i < M (45 + 2 * kk) 2
      · have g := R_faultAt 8 M _ hcc i 1 (by omega) (by omega)
        rw [if_neg (by omega), if_pos (by omega)] at g
        have w1 : w32 (M 65 k - 1) = M 65 k - 1 := w32_s (by omega) (by omega)
        have w2 : w32 (w32 (40 * k) + i) = 40 * k + i := by rw [w32_s (z := 40 * k) (by omega) (by omega), w32_s (by omega) (by omega)]
        have a1 : mR3 10 83 [vr 0, vi k, vi i, vi v] (S0, M) (some (vi 1), (S0, mupd M (45 + 2 * kk + 1) i (lv (M (45 + 2 * kk) 1) v))) :=
          ⟨⟨by decide, Nat.le_of_ble_eq_true rfl⟩, fun K hK => st hK (q_L_lay_15 hK i v _ M hcc ⟨_, _, g, br_t rfl ⟨_, R_set 8 M _ hcc i v (by omega), mret_i rfl rfl⟩⟩)⟩
        have e0 : ∀ j : Nat, j ≠ 46 + 2 * kk → mupd M (45 + 2 * kk + 1) i (lv (M (45 + 2 * kk) 1) v) j = M j := fun j q => mupd_ne _ _ _ (by omega)
        have f0 : mupd M (45 + 2 * kk + 1) i (lv (M (45 + 2 * kk) 1) v) (46 + 2 * kk) = fup (M (46 + 2 * kk)) i (lv (M (45 + 2 * kk) 1) v) := by rw [show 45 + 2 * kk + 1 = 46 + 2 * kk by omega, mupd_at]
        generalize mupd M (45 + 2 * kk + 1) i (lv (M (45 + 2 * kk) 1) v) = m at a1 e0 f0
        have m64 : m 64 = M 64 := e0 64 (by omega)
        have m65 : m 65 = M 65 := e0 65 (by omega)
        have a2 : mR3 10 186 [vr 53, vi k, vi i, vi v] (S0, m) (some (vi 1), (S0, mupd m 66 (40 * k + i) (lv (M (45 + 2 * kk) 1) v))) := by
          refine ⟨⟨by decide, Nat.le_of_ble_eq_true rfl⟩, fun K hK => q_M_lay_0 hK k i v m ⟨_, _, R_in 8 _ _ _ _, br_t (b2_n0.mpr (by omega)) ?_⟩⟩
          rw [m64, m65, w1, w2, s3]
          refine mIn_i (by omega) (by omega) (br_t (by omega) (mIn_i (by omega) (by omega) ⟨_, _, R_in 8 _ _ _ _, br_t (b2_n0.mpr (by omega)) (mIn_i (by omega) (by omega) ?_)⟩))
          rw [m64, s3]
          refine ⟨fun q => mIn_i (by omega) (by omega) ⟨fun q2 => mIn_i (by omega) (by omega) (mret_i rfl ?_), fun q2 => mIn_i (by omega) (by omega) (mret_i rfl ?_)⟩, fun q => mIn_i (by omega) (by omega) (mret_i rfl ?_)⟩
          · unfold lv
            rw [if_neg q, if_neg q2]
          · unfold lv
            rw [if_neg q, if_pos (Decidable.not_not.mp q2), w16_sh]
          · unfold lv
            rw [if_pos (Decidable.not_not.mp q), w8_sh]
        refine ⟨_, _, _, a1, a2, ?_⟩
        generalize lv (M (45 + 2 * kk) 1) v = u at f0
        have e : ∀ j : Nat, j ≠ 46 + 2 * kk → j ≠ 66 → mupd m 66 (40 * k + i) u j = M j := fun j q0 q1 => by rw [mupd_ne _ _ _ q1, e0 j q0]
        have g0 : mupd m 66 (40 * k + i) u (46 + 2 * kk) = fup (M (46 + 2 * kk)) i u := by rw [mupd_ne _ _ _ (by omega), f0]
        have g66 : mupd m 66 (40 * k + i) u 66 = fup (M 66) (40 * k + i) u := by rw [mupd_at, e0 66 (by omega)]
        generalize mupd m 66 (40 * k + i) u = m' at e g0 g66
        have ht := h.2.2.2.2.1
        have hs := h.2.2.2.2.2.1
        have ho := h.2.2.2.2.2.2.2.1
        have r : ∀ j : Nat, (j < 45 ∨ (53 ≤ j ∧ j < 66)) → m' j = M j := fun j q => e j (by omega) (by omega)
        refine Inv_ch h (fun j hj => r j (by omega)) (fun i _ _ => by rw [r 54 (by omega)]) ?_ ?_ ?_ ?_
        · exact TaI_fr ht (by rw [r 35 (by omega)]) (by rw [r 35 (by omega)]) (by rw [r 53 (by omega)]) (by rw [r 53 (by omega)]) (r 56 (by omega)) (r 36 (by omega))
        · exact SeI_fr hs (by rw [r 0 (by omega)]) (by rw [r 53 (by omega)]) (r 60 (by omega)) (r 40 (by omega)) (r 41 (by omega))
        · intro j hj
          by_cases q : j = kk
          · subst q
            unfold ShI
            rw [e (45 + 2 * j) (by omega) (by omega), g0, g66, e 64 (by omega) (by omega), e 65 (by omega) (by omega), ← hk]
            refine Or.inr ⟨s1, s2, s3, s4, fun x q0 q1 => ?_⟩
            have g5 := s5 x q0 q1
            unfold fup
            split <;> split <;> omega
          · have g := hh j hj
            unfold ShI at g ⊢
            rw [e (45 + 2 * j) (by omega) (by omega), e (46 + 2 * j) (by omega) (by omega), e 64 (by omega) (by omega), e 65 (by omega) (by omega), g66]
            rcases g with g | ⟨g1, g2, g3, g4, g5⟩
            · exact Or.inl g
            · refine Or.inr ⟨g1, g2, g3, g4, fun x q0 q1 => ?_⟩
              rw [fup_ne _ _ (by omega)]
              exact g5 x q0 q1
        · rw [r 0 (by omega), r 53 (by omega)]
          exact ho
      · have g := R_faultAt 8 M _ hcc i 1 (by omega) (by omega)
        rw [if_neg (by omega), if_neg (by omega)] at g
        have w1 : w32 (M 65 k - 1) = M 65 k - 1 := w32_s (by omega) (by omega)
        refine ⟨-12, M, M, ⟨⟨by decide, Nat.le_of_ble_eq_true rfl⟩, fun K hK => st hK (q_L_lay_15 hK i v _ M hcc ⟨_, _, g, br_f (by decide) (mret_i rfl rfl)⟩)⟩, ⟨⟨by decide, Nat.le_of_ble_eq_true rfl⟩, fun K hK => q_M_lay_0 hK k i v M ⟨_, _, R_in 8 _ _ _ _, br_t (b2_n0.mpr (by omega)) (mIn_i (by omega) (by omega) (br_t (by omega) (mIn_i (by omega) (by omega) ⟨_, _, R_in 8 _ _ _ _, br_f (fun q => ?_) (mret_i rfl rfl)⟩)))⟩⟩, h⟩
        have q := b2_n0.mp q
        rw [w1] at q
        omega
  · exact ⟨-1, M, M, ⟨⟨by decide, Nat.le_of_ble_eq_true rfl⟩, fun K hK => q_L_lay_0 hK k i v M ⟨_, _, R_isSheet 8 M k, br_f (fun q => c (b2_n0.mp q)) (mret_i rfl rfl)⟩⟩, ⟨⟨by decide, Nat.le_of_ble_eq_true rfl⟩, fun K hK => q_M_lay_0 hK k i v M ⟨_, _, R_in 8 _ _ _ _, br_f (fun q => c (by have q := b2_n0.mp q; omega)) (mret_i rfl rfl)⟩⟩, h⟩
