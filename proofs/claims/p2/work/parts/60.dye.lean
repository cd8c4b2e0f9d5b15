/-! PURE PROOFS 38: dye -/
theorem swp_2 {a b v : Int} : swp a b (swp a b v) = v := by
  unfold swp
  by_cases q : v = a
  · rw [if_pos q]
    by_cases r : b = a
    · rw [if_pos r]
      omega
    · rw [if_neg r, if_pos rfl]
      omega
  · rw [if_neg q]
    by_cases r : v = b
    · rw [if_pos r, if_pos rfl]
      omega
    · rw [if_neg r, if_neg q, if_neg r]
theorem T_exch {m M : mMem} {f s : Int → Int} {a b : Int} (h : TrC m M f s) (ha : 0 ≤ a ∧ a ≤ 4) (hb : 0 ≤ b ∧ b ≤ 4) : TrC (exM m 9 a b 36) M (fun i => swp a b (f i)) s := by
  obtain ⟨c, h1, h2, h3, h4, h5, h6, h7⟩ := h
  have cc := exM_cht c ha hb 36 (by decide)
  have e : ∀ k : Nat, k ≠ 10 → k ≠ 15 → k ≠ 16 → exM m 9 a b 36 k = m k := fun k x y z => exM_ne m 9 a b x y z 36
  have e1 : ∀ i : Int, 0 ≤ i → i < 36 → exM m 9 a b 36 10 i = swp a b (f i) := fun i x y => by
    have g := exM_cel m 9 a b 36 i
    rw [if_pos ⟨x, by omega⟩] at g
    rw [← h1 i x y]
    exact g
  unfold TrC
  rw [e 11 (by decide) (by decide) (by decide), e 12 (by decide) (by decide) (by decide), e 13 (by decide) (by decide) (by decide), e 14 (by decide) (by decide) (by decide), e 9 (by decide) (by decide) (by decide)]
  exact ⟨cc, e1, h2, h3, h4, h5, h6, h7⟩
theorem P_dye {M : mMem} (h : Inv M) (x : Int) : PairI 68 164 [vi x] M := by
  have hc := h.1
  have hp := Pg0_of h.2.1
  have n5 : 0 ≤ M 1 5 ∧ M 1 5 ≤ 5 := hc.2.1
  obtain ⟨k, hk⟩ : ∃ k : Nat, M 1 5 = k := ⟨(M 1 5).toNat, by omega⟩
  have k5 : k ≤ 5 := by omega
  by_cases c : x = 0 ∨ x = 1
  · refine ask_pair (V := tld (off (off (off (-4, woS (M 4) (M 2) k) 12 (woS (M 4) (fun i => swp 1 2 (M 2 i)) k)) 13 (woS (M 4) (fun i => swp 1 3 (M 2 i)) k)) 23 (woS (M 4) (fun i => swp 2 3 (M 2 i)) k)) x) h ?_ (fun m hm => ?_)
    · refine mI3_i ⟨by decide, Nat.le_of_ble_eq_true rfl⟩ (fun K hK => ?_)
      have step : ∀ (a b : Int) (st : Int × Int), 1 ≤ a → a ≤ 3 → 1 ≤ b → b ≤ 3 → (∀ m2, TrC m2 M (M 2) (M 3) → ChC m2 (off st (10 * a + b) (woS (M 4) (fun i => swp a b (M 2 i)) k)) → FrL m2 M → K 45 [(0, vr 0), (1, vi x), (2, vi a), (3, vi (b + 1))] [] (S0, m2)) → ∀ m', TrC m' M (M 2) (M 3) → ChC m' st → FrL m' M → K 45 [(0, vr 0), (1, vi x), (2, vi a), (3, vi b)] [] (S0, m') := by
        intro a b st a1 a3 b1 b3 fin m' h0 h1 h2
        have t1 := T_exch h0 (a := a) (b := b) (by omega) (by omega)
        have u1 : ∀ k : Nat, k ≠ 10 → k ≠ 15 → k ≠ 16 → exM m' 9 a b 36 k = m' k := fun k x y z => exM_ne m' 9 a b x y z 36
        have c1 : ChC (exM m' 9 a b 36) st := by
          unfold ChC
          rw [u1 37 (by decide) (by decide) (by decide)]
          exact h1
        have w1 : w32 (w32 (10 * a) + b) = 10 * a + b := by rw [w32_s (z := 10 * a) (by omega) (by omega), w32_s (by omega) (by omega)]
        refine q_L_dye_45 hK _ _ _ m' (br_f (by omega) ⟨_, R_exchange 6 m' 9 (by omega) a b (by omega) (by omega) h0.1, _, _, T_worth 6 t1 hk k5, ?_⟩)
        rw [w1, w32_s (z := b + 1) (by omega) (by omega)]
        refine cN (C_offer 8 c1 _ _) (fun m2 p => ?_)
        obtain ⟨p1, p2⟩ := p
        have t2 : TrC m2 M (fun i => swp a b (M 2 i)) (M 3) := T_eq t1 (fun k a b => p2 k (by omega)) (by rw [p2 9 (by decide)]) (by rw [p2 9 (by decide)])
        have t3 := T_cong (T_exch t2 (a := a) (b := b) (by omega) (by omega)) (fun z _ _ => swp_2 (v := M 2 z))
        have u2 : ∀ k : Nat, k ≠ 10 → k ≠ 15 → k ≠ 16 → exM m2 9 a b 36 k = m2 k := fun k x y z => exM_ne m2 9 a b x y z 36
        refine ⟨_, R_exchange 6 m2 9 (by omega) a b (by omega) (by omega) t2.1, fin _ t3 ?_ (FrL_row (FrL_row (FrL_row h2 (fun k a _ _ _ _ _ => u1 k (by omega) (by omega) (by omega))) (fun k _ a _ _ _ _ => p2 k a)) (fun k a _ _ _ _ _ => u2 k (by omega) (by omega) (by omega)))⟩
        unfold ChC
        rw [u2 37 (by decide) (by decide) (by decide)]
        exact p1
      have t0 := T_copy (m := M) hc (fun _ _ _ => rfl)
      refine q_L_dye_0 hK x M ⟨_, _, R_isPart 8 M x, br_t (b2_n0.mpr c) ⟨_, R_copyFrom 8 M 9 1 (by unfold cpP; omega), _, _, T_worth 6 t0 hk k5, cN (C_begin 8 _ _) (fun m2 p => ?_)⟩⟩
      refine q_L_dye_36 hK x 1 m2 (br_f (by decide) ?_)
      refine step 1 2 _ (by decide) (by decide) (by decide) (by decide) (fun m3 g0 g1 g2 => ?_) m2 (T_eq t0 (fun k a b => p.2 k (by omega)) (by rw [p.2 9 (by decide)]) (by rw [p.2 9 (by decide)])) p.1 (FrL_row (FrL_row (FrL_refl M) (fun k a _ _ _ _ _ => cpy_ne M (by omega))) (fun k _ a _ _ _ _ => p.2 k a))
      refine step 1 3 _ (by decide) (by decide) (by decide) (by decide) (fun m4 g0 g1 g2 => ?_) m3 g0 g1 g2
      refine q_L_dye_45 hK x 1 _ m4 (br_t (by decide) (q_L_dye_36 hK x 2 m4 (br_f (by decide) ?_)))
      refine step 2 3 _ (by decide) (by decide) (by decide) (by decide) (fun m5 g0 g1 g2 => ?_) m4 g0 g1 g2
      exact q_L_dye_45 hK x 2 _ m5 (br_t (by decide) (q_L_dye_36 hK x 3 m5 (br_t (by decide) ⟨_, _, C_told 8 g1 x, rI_i ⟨rfl, g2⟩⟩)))
    · refine mI3_i ⟨by decide, Nat.le_of_ble_eq_true rfl⟩ (fun K hK => ?_)
      have m54 := (FrL_lo hm).2
      have inner : ∀ (w a b : Int) (v17 : Int), (∀ m', PgC m' M 340 (fun z => swp a b (M 2 z)) (M 3) → m' 53 17 = v17 → FrM m' m → K 53 [(0, vr 53), (1, vi x), (2, vi w), (3, vi a), (4, vi b), (5, vi 36)] [] (S0, m')) → ∀ (j i : Nat), i + j = 36 → ∀ m', PgC m' M 340 (fun z => if z < (i : Int) then swp a b (M 2 z) else M 2 z) (M 3) → m' 53 17 = v17 → FrM m' m → K 53 [(0, vr 53), (1, vi x), (2, vi w), (3, vi a), (4, vi b), (5, vi (i : Int))] [] (S0, m') := by
        intro w a b v17 fin j
        induction j with
        | zero =>
          intro i hi m' h1 h2 h3
          rw [show i = 36 by omega] at h1 ⊢
          refine fin m' (G_cong h1 (fun z q r => ?_)) h2 h3
          show (if z < 36 then swp a b (M 2 z) else M 2 z) = swp a b (M 2 z)
          rw [if_pos (by omega)]
        | succ j ih =>
          intro i hi m' h1 h2 h3
          have h4 := ih (i + 1) (by omega)
          have hz : ∃ z : Int, z = (i : Int) := ⟨_, rfl⟩
          obtain ⟨z, hz⟩ := hz
          have ez : ((i + 1 : Nat) : Int) = z + 1 := by omega
          rw [ez] at h4
          rw [← hz] at h1
          rw [← hz]
          have zb : 0 ≤ z ∧ z < 36 := by omega
          clear hz ez hi
          have ew : w32 (z + 1) = z + 1 := w32_s (by omega) (by omega)
          have i2 : w32 (340 + z) = 340 + z := w32_s (by omega) (by omega)
          have pv : m' 54 z = M 2 z := by rw [h3.2.2.2.2.2 _ (by omega) (by omega), m54, hp.1 _ (by omega) (by omega)]
          have go : ∀ u, u = swp a b (M 2 z) → K 53 [(0, vr 53), (1, vi x), (2, vi w), (3, vi a), (4, vi b), (5, vi (z + 1))] [] (S0, mupd m' 54 (340 + z) u) := by
            intro u hu
            refine h4 _ (G_cong (G_set h1 hc zb) (fun q r t => ?_)) (by rw [mupd_ne _ _ _ (by decide)]; exact h2) (FrM_set h3 (by omega))
            unfold fup
            show (if q = z then u else if q < z then swp a b (M 2 q) else M 2 q) = if q < z + 1 then swp a b (M 2 q) else M 2 q
            by_cases y : q = z
            · rw [if_pos y, if_pos (by omega), y, hu]
            · rw [if_neg y]
              by_cases y2 : q < z
              · rw [if_pos y2, if_pos (by omega)]
              · rw [if_neg y2, if_neg (by omega)]
          refine q_M_dye_53 hK _ _ _ _ _ m' (br_f (by omega) ?_)
          rw [ew, i2, pv]
          refine mIn_i (by omega) (by omega) ⟨fun q => mIn_i (by omega) (by omega) ⟨fun q2 => mIn_i (by omega) (by omega) (mIn_i (by omega) (by omega) (go _ ?_)), fun q2 => mIn_i (by omega) (by omega) (go _ ?_)⟩, fun q => mIn_i (by omega) (by omega) (go _ ?_)⟩
          · unfold swp
            rw [if_neg q, if_neg q2]
          · unfold swp
            rw [if_neg q, if_pos (Decidable.not_not.mp q2)]
          · unfold swp
            rw [if_pos (Decidable.not_not.mp q)]
      have step : ∀ (a b : Int) (st : Int × Int), 1 ≤ a → a ≤ 3 → 1 ≤ b → b ≤ 3 → (∀ m2 w, WhM m2 w (off st (10 * a + b) (woS (M 4) (fun i => swp a b (M 2 i)) k)) → FrM m2 m → K 36 [(0, vr 53), (1, vi x), (2, vi w), (3, vi a), (4, vi (b + 1))] [] (S0, m2)) → ∀ m' w, WhM m' w st → FrM m' m → K 36 [(0, vr 53), (1, vi x), (2, vi w), (3, vi a), (4, vi b)] [] (S0, m') := by
        intro a b st a1 a3 b1 b3 fin m' w h1 h2
        have w1 : w32 (w32 (10 * a) + b) = 10 * a + b := by rw [w32_s (z := 10 * a) (by omega) (by omega), w32_s (by omega) (by omega)]
        have ew : w32 (b + 1) = b + 1 := w32_s (by omega) (by omega)
        refine q_M_dye_36 hK _ _ _ _ m' (br_f (by omega) ⟨_, R_copies 8 m' 0 340 (by omega) (by omega) (by omega), ?_⟩)
        have g := G_copy (m := m') (p := 340) h.2.1 hc (fun a q0 q1 => by rw [h2.2.2.2.2.2 a q0 (by omega), m54])
        refine inner w a b (m' 53 17) (fun m1 p1 p7 p4 => ?_) 36 0 (by omega) _ (G_cong g (fun z q r => ?_)) (by rw [mcpy_ne _ _ _ _ _ (by decide)]) (FrM_cpy h2 (by decide))
        · refine q_M_dye_53 hK _ _ _ _ _ m1 (br_t (by decide) ⟨_, _, G_worth 6 p1 (by omega) hc hk k5, cI (G_more 8 m1 _) (fun v m2 p => ?_)⟩)
          obtain ⟨v1, v2, _, v4⟩ := p
          have c1 : WhM m1 w st := ⟨h1.1, by rw [p7, h1.2]⟩
          have c2 := W_more (code := 10 * a + b) c1 v1 v2
          have h3 := fin m2 _ c2 (FrM_trans v4 p4)
          rw [ew, w1]
          refine ⟨fun q => ?_, fun q => ?_⟩
          · rw [if_pos q] at h3
            exact h3
          · rw [if_neg q] at h3
            exact h3
        · show M 2 z = if z < 0 then swp a b (M 2 z) else M 2 z
          rw [if_neg (by omega)]
      refine q_M_dye_0 hK x m ⟨_, _, R_in 8 _ _ _ _, br_t (b2_n0.mpr (by omega)) ⟨_, _, G_worth 6 (G_0 h.2.1 hc (fun a q0 q1 => by rw [m54])) (by omega) hc hk k5, ?_⟩⟩
      refine q_M_dye_26 hK x _ 1 _ (br_f (by decide) ?_)
      refine step 1 2 (-4, woS (M 4) (M 2) k) (by decide) (by decide) (by decide) (by decide) (fun m3 w g1 g2 => ?_) _ _ ⟨rfl, by rw [mupd_at, fup_at]⟩ (FrM_53 (FrM_refl m) (by decide) (by decide) (by decide) (by decide))
      refine step 1 3 _ (by decide) (by decide) (by decide) (by decide) (fun m4 w g1 g2 => ?_) m3 w g1 g2
      refine q_M_dye_36 hK x _ 1 _ m4 (br_t (by decide) (q_M_dye_26 hK x _ 2 m4 (br_f (by decide) ?_)))
      refine step 2 3 _ (by decide) (by decide) (by decide) (by decide) (fun m5 w g1 g2 => ?_) m4 w g1 g2
      refine q_M_dye_36 hK x _ 2 _ m5 (br_t (by decide) (q_M_dye_26 hK x _ 3 m5 (br_f (by decide) (q_M_dye_36 hK x _ 3 _ m5 (br_t (by decide) (q_M_dye_26 hK x _ 4 m5 (br_t (by decide) ?_)))))))
      have t := W_told g1 x
      refine ⟨fun q => rI_i ⟨?_, g2⟩, fun q => ⟨fun q2 => rI_i ⟨?_, g2⟩, fun q2 => rI_i ⟨?_, g2⟩⟩⟩
      · exact Eq.trans (by rw [if_pos q]) t
      · exact Eq.trans (by rw [if_neg q, if_pos q2]) t
      · exact Eq.trans (by rw [if_neg q, if_neg q2]) t
  · exact ⟨-1, M, M, ⟨⟨by decide, Nat.le_of_ble_eq_true rfl⟩, fun K hK => q_L_dye_0 hK x M ⟨_, _, R_isPart 8 M x, br_f (fun q => c (b2_n0.mp q)) (mret_i rfl rfl)⟩⟩, ⟨⟨by decide, Nat.le_of_ble_eq_true rfl⟩, fun K hK => q_M_dye_0 hK x M ⟨_, _, R_in 8 _ _ _ _, br_f (fun q => c (by have q := b2_n0.mp q; omega)) (mret_i rfl rfl)⟩⟩, h⟩
