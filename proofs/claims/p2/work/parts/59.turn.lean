/-! PURE PROOFS 37: turn -/
theorem T_cong {m M : mMem} {f g s : Int → Int} (h : TrC m M f s) (e : ∀ i : Int, 0 ≤ i → i < 36 → f i = g i) : TrC m M g s :=
  ⟨h.1, fun i a b => by rw [h.2.1 i a b, e i a b], h.2.2⟩
theorem G_cong {m M : mMem} {p : Int} {f g s : Int → Int} (h : PgC m M p f s) (e : ∀ i : Int, 0 ≤ i → i < 36 → f i = g i) : PgC m M p g s :=
  ⟨fun i a b => by rw [h.1 i a b, e i a b], h.2⟩
theorem G_0 {m M : mMem} (h : Pg M 1 0) (hc : Cht M 1) (e : ∀ i : Int, 0 ≤ i → i < 85 → m 54 i = M 54 i) : PgC m M 0 (M 2) (M 3) := by
  obtain ⟨g1, g2, g3, g4, g5, g6⟩ := h
  have b5 : 0 ≤ M 1 5 ∧ M 1 5 ≤ 5 := hc.2.1
  refine ⟨fun i q0 q1 => ?_, fun x q0 q1 => ⟨?_, hc.2.2.2.2.2 x q0 q1⟩, ?_, fun l x q0 q1 q2 q3 => ?_⟩
  · rw [e _ (by omega) (by omega)]
    exact g1 i q0 q1
  · rw [e _ (by omega) (by omega)]
    exact g2 x q0 q1
  · rw [e _ (by omega) (by omega)]
    exact g3
  · rw [e _ (by omega) (by omega)]
    exact g4 l x q0 q1 q2 q3
def tuF (f : Int → Int) (y : Int) : Int → Int := fun i => if i % 6 = y then f (30 + 2 * y - i) else f i
theorem tuF_2 (f : Int → Int) (y : Int) (hy : 0 ≤ y ∧ y < 6) (i : Int) : tuF (tuF f y) y i = f i := by
  unfold tuF
  by_cases q : i % 6 = y
  · rw [if_pos q, if_pos (by omega), show 30 + 2 * y - (30 + 2 * y - i) = i by omega]
  · rw [if_neg q, if_neg q]
theorem T_turn {m M : mMem} {f s : Int → Int} {y : Int} (h : TrC m M f s) (hy : 0 ≤ y ∧ y < 6) : TrC (trM m 9 y 3) M (tuF f y) s := by
  obtain ⟨c, h1, h2, h3, h4, h5, h6, h7⟩ := h
  have cc := trM_cht c hy 3 (by decide)
  have e : ∀ k : Nat, k ≠ 10 → k ≠ 15 → k ≠ 16 → trM m 9 y 3 k = m k := fun k a b c => trM_ne m 9 y a b c 3
  have e1 : ∀ i : Int, 0 ≤ i → i < 36 → trM m 9 y 3 10 i = tuF f y i := fun i a b => by
    have g := trM_cel m 9 hy 3 (by decide) i a b
    have g : trM m 9 y 3 10 i = if i % 6 = y ∧ (i / 6 < ((3 : Nat) : Int) ∨ 5 - ((3 : Nat) : Int) < i / 6) then m 10 (30 + 2 * y - i) else m 10 i := g
    rw [g]
    unfold tuF
    by_cases q : i % 6 = y
    · rw [if_pos ⟨q, by omega⟩, if_pos q, h1 _ (by omega) (by omega)]
    · rw [if_neg (fun z => q z.1), if_neg q, h1 i a b]
  unfold TrC
  rw [e 11 (by decide) (by decide) (by decide), e 12 (by decide) (by decide) (by decide), e 13 (by decide) (by decide) (by decide), e 14 (by decide) (by decide) (by decide), e 9 (by decide) (by decide) (by decide)]
  exact ⟨cc, e1, h2, h3, h4, h5, h6, h7⟩
theorem P_turn {M : mMem} (h : Inv M) (x : Int) : PairI 69 165 [vi x] M := by
  have hc := h.1
  have hp := Pg0_of h.2.1
  have n5 : 0 ≤ M 1 5 ∧ M 1 5 ≤ 5 := hc.2.1
  obtain ⟨k, hk⟩ : ∃ k : Nat, M 1 5 = k := ⟨(M 1 5).toNat, by omega⟩
  have k5 : k ≤ 5 := by omega
  by_cases c : x = 0 ∨ x = 1
  · obtain ⟨o, ho⟩ : ∃ o : Nat → Int × Int, o = fun (i : Nat) => ((i : Int), woS (M 4) (tuF (M 2) i) k) := ⟨_, rfl⟩
    refine ask_pair (V := tld (chS o (woS (M 4) (M 2) k) 6) x) h ?_ (fun m hm => ?_)
    · refine mI3_i ⟨by decide, Nat.le_of_ble_eq_true rfl⟩ (fun K hK => ?_)
      have loop : ∀ (j i : Nat), i + j = 6 → ∀ m' : mMem, TrC m' M (M 2) (M 3) → ChC m' (chS o (woS (M 4) (M 2) k) i) → FrL m' M → K 36 [(0, vr 0), (1, vi x), (2, vi (i : Int))] [] (S0, m') := by
        intro j
        induction j with
        | zero =>
          intro i hi m' h0 h1 h2
          rw [show i = 6 by omega] at h1 ⊢
          exact q_L_turn_36 hK _ _ m' (br_t (by decide) ⟨_, _, C_told 8 h1 x, rI_i ⟨rfl, h2⟩⟩)
        | succ j ih =>
          intro i hi m' h0 h1 h2
          have ew : w32 ((i : Int) + 1) = ((i + 1 : Nat) : Int) := by rw [w32_s (by omega) (by omega)]; omega
          have iy : 0 ≤ (i : Int) ∧ (i : Int) < 6 := by omega
          have t1 := T_turn h0 iy
          have u1 : ∀ k : Nat, k ≠ 10 → k ≠ 15 → k ≠ 16 → trM m' 9 i 3 k = m' k := fun k a b c => trM_ne m' 9 i a b c 3
          have c1 : ChC (trM m' 9 i 3) (chS o (woS (M 4) (M 2) k) i) := by
            unfold ChC
            rw [u1 37 (by decide) (by decide) (by decide)]
            exact h1
          refine q_L_turn_36 hK _ _ m' (br_f (by omega) ⟨_, R_turnRow 6 m' 9 (by omega) i iy h0.1, _, _, T_worth 6 t1 hk k5, cN (C_offer 8 c1 _ _) (fun m2 p => ?_)⟩)
          obtain ⟨p1, p2⟩ := p
          have t2 : TrC m2 M (tuF (M 2) i) (M 3) := T_eq t1 (fun k a b => p2 k (by omega)) (by rw [p2 9 (by decide)]) (by rw [p2 9 (by decide)])
          have t3 := T_cong (T_turn t2 iy) (fun z _ _ => tuF_2 (M 2) i iy z)
          have u2 : ∀ k : Nat, k ≠ 10 → k ≠ 15 → k ≠ 16 → trM m2 9 i 3 k = m2 k := fun k a b c => trM_ne m2 9 i a b c 3
          refine ⟨_, R_turnRow 6 m2 9 (by omega) i iy t2.1, ?_⟩
          rw [ew]
          refine ih (i + 1) (by omega) _ t3 ?_ (FrL_row (FrL_row (FrL_row h2 (fun k a _ _ _ _ _ => u1 k (by omega) (by omega) (by omega))) (fun k _ a _ _ _ _ => p2 k a)) (fun k a _ _ _ _ _ => u2 k (by omega) (by omega) (by omega)))
          unfold ChC
          rw [u2 37 (by decide) (by decide) (by decide), chS_s, ho]
          rw [ho] at p1
          exact p1
      have t0 := T_copy (m := M) hc (fun _ _ _ => rfl)
      refine q_L_turn_0 hK x M ⟨_, _, R_isPart 8 M x, br_t (b2_n0.mpr c) ⟨_, R_copyFrom 8 M 9 1 (by unfold cpP; omega), _, _, T_worth 6 t0 hk k5, cN (C_begin 8 _ _) (fun m2 p => ?_)⟩⟩
      exact loop 6 0 (by omega) m2 (T_eq t0 (fun k a b => p.2 k (by omega)) (by rw [p.2 9 (by decide)]) (by rw [p.2 9 (by decide)])) p.1 (FrL_row (FrL_row (FrL_refl M) (fun k a _ _ _ _ _ => cpy_ne M (by omega))) (fun k _ a _ _ _ _ => p.2 k a))
    · refine mI3_i ⟨by decide, Nat.le_of_ble_eq_true rfl⟩ (fun K hK => ?_)
      have m54 := (FrL_lo hm).2
      have inner : ∀ (w : Int) (y : Nat), y < 6 → ∀ (m0 : mMem), (∀ m', PgC m' M 340 (tuF (M 2) y) (M 3) → m' 53 17 = m0 53 17 → FrM m' m → K 43 [(0, vr 53), (1, vi x), (2, vi w), (3, vi (y : Int)), (4, vi 6)] [] (S0, m')) → ∀ (j i : Nat), i + j = 6 → ∀ m', PgC m' M 340 (fun z => if z % 6 = (y : Int) ∧ z / 6 < (i : Int) then M 2 (30 + 2 * (y : Int) - z) else M 2 z) (M 3) → m' 53 17 = m0 53 17 → FrM m' m → K 43 [(0, vr 53), (1, vi x), (2, vi w), (3, vi (y : Int)), (4, vi (i : Int))] [] (S0, m') := by
        intro w y hy m0 fin j
        induction j with
        | zero =>
          intro i hi m' h1 h2 h3
          rw [show i = 6 by omega] at h1 ⊢
          refine fin m' (G_cong h1 (fun z a b => ?_)) h2 h3
          unfold tuF
          by_cases q : z % 6 = (y : Int)
          · rw [if_pos ⟨q, by omega⟩, if_pos q]
          · rw [if_neg (fun r => q r.1), if_neg q]
        | succ j ih =>
          intro i hi m' h1 h2 h3
          have h4 := ih (i + 1) (by omega)
          have hz : ∃ z u : Int, z = (i : Int) ∧ u = (y : Int) := ⟨_, _, rfl, rfl⟩
          obtain ⟨z, u, hz, hu⟩ := hz
          have ez : ((i + 1 : Nat) : Int) = z + 1 := by omega
          rw [ez, ← hu] at h4
          rw [← hz, ← hu] at h1
          rw [← hz, ← hu]
          have zb : 0 ≤ z ∧ z < 6 ∧ 0 ≤ u ∧ u < 6 := by omega
          clear hz hu ez hi hy
          have ew : w32 (z + 1) = z + 1 := w32_s (by omega) (by omega)
          have i1 : w32 (w32 (6 * w32 (5 - z)) + u) = 30 - 6 * z + u := by
            rw [w32_s (z := 5 - z) (by omega) (by omega), w32_s (z := 6 * (5 - z)) (by omega) (by omega), w32_s (by omega) (by omega)]
            omega
          have i2 : w32 (w32 (340 + w32 (6 * z)) + u) = 340 + (6 * z + u) := by
            rw [w32_s (z := 6 * z) (by omega) (by omega), w32_s (z := 340 + 6 * z) (by omega) (by omega), w32_s (by omega) (by omega)]
            omega
          have pv : m' 54 (30 - 6 * z + u) = M 2 (30 - 6 * z + u) := by rw [h3.2.2.2.2.2 _ (by omega) (by omega), m54, hp.1 _ (by omega) (by omega)]
          refine q_M_turn_43 hK _ _ _ _ m' (br_f (by omega) ?_)
          rw [ew, i1, i2, pv]
          refine mIn_i (by omega) (by omega) (mIn_i (by omega) (by omega) (h4 _ (G_cong (G_set h1 hc (t := 6 * z + u) (by omega)) (fun q a b => ?_)) ?_ (FrM_set h3 (by omega))))
          · unfold fup
            by_cases r : q = 6 * z + u
            · rw [if_pos r, if_pos (by omega), show 30 + 2 * u - q = 30 - 6 * z + u by omega]
            · rw [if_neg r]
              show (if q % 6 = u ∧ q / 6 < z then M 2 (30 + 2 * u - q) else M 2 q) = if q % 6 = u ∧ q / 6 < z + 1 then M 2 (30 + 2 * u - q) else M 2 q
              by_cases r2 : q % 6 = u ∧ q / 6 < z
              · rw [if_pos r2, if_pos (by omega)]
              · rw [if_neg r2, if_neg (by omega)]
          · rw [mupd_ne _ _ _ (by decide)]
            exact h2
      have loop : ∀ (j i : Nat), i + j = 6 → ∀ (m' : mMem) (w : Int), WhM m' w (chS o (woS (M 4) (M 2) k) i) → FrM m' m → K 26 [(0, vr 53), (1, vi x), (2, vi w), (3, vi (i : Int))] [] (S0, m') := by
        intro j
        induction j with
        | zero =>
          intro i hi m' w h1 h2
          rw [show i = 6 by omega] at h1 ⊢
          have t := W_told h1 x
          refine q_M_turn_26 hK _ _ _ m' (br_t (by decide) ⟨fun q => rI_i ⟨?_, h2⟩, fun q => ⟨fun q2 => rI_i ⟨?_, h2⟩, fun q2 => rI_i ⟨?_, h2⟩⟩⟩)
          · rw [← t, if_pos q]
          · rw [← t, if_neg q, if_pos q2]
          · rw [← t, if_neg q, if_neg q2]
        | succ j ih =>
          intro i hi m' w h1 h2
          have ew : w32 ((i : Int) + 1) = ((i + 1 : Nat) : Int) := by rw [w32_s (by omega) (by omega)]; omega
          refine q_M_turn_26 hK _ _ _ m' (br_f (by omega) ⟨_, R_copies 8 m' 0 340 (by omega) (by omega) (by omega), ?_⟩)
          have g := G_copy (m := m') (p := 340) h.2.1 hc (fun a q0 q1 => by rw [h2.2.2.2.2.2 a q0 (by omega), m54])
          refine inner w i (by omega) m' (fun m1 p1 p7 p4 => ?_) 6 0 (by omega) _ (G_cong g (fun z a b => ?_)) (by rw [mcpy_ne _ _ _ _ _ (by decide)]) (FrM_cpy h2 (by decide))
          · refine q_M_turn_43 hK _ _ _ _ m1 (br_t (by decide) ⟨_, _, G_worth 6 p1 (by omega) hc hk k5, cI (G_more 8 m1 _) (fun v m2 p => ?_)⟩)
            obtain ⟨v1, v2, _, v4⟩ := p
            have c1 : WhM m1 w (chS o (woS (M 4) (M 2) k) i) := ⟨h1.1, by rw [p7, h1.2]⟩
            have c2 := W_more (code := (i : Int)) c1 v1 v2
            have c3 : WhM m2 (if v = 0 then w else (i : Int)) (chS o (woS (M 4) (M 2) k) (i + 1)) := by
              rw [chS_s, ho]
              rw [ho] at c2
              exact c2
            have h3 := ih (i + 1) (by omega) m2 _ c3 (FrM_trans v4 p4)
            rw [ew]
            refine ⟨fun q => ?_, fun q => ?_⟩
            · rw [if_pos q] at h3
              exact h3
            · rw [if_neg q] at h3
              exact h3
          · show M 2 z = if z % 6 = (i : Int) ∧ z / 6 < 0 then M 2 (30 + 2 * (i : Int) - z) else M 2 z
            rw [if_neg (by omega)]
      refine q_M_turn_0 hK x m ⟨_, _, R_in 8 _ _ _ _, br_t (b2_n0.mpr (by omega)) ⟨_, _, G_worth 6 (G_0 h.2.1 hc (fun a q0 q1 => by rw [m54])) (by omega) hc hk k5, ?_⟩⟩
      exact loop 6 0 (by omega) _ _ ⟨rfl, by rw [mupd_at, fup_at]; rfl⟩ (FrM_53 (FrM_refl m) (by decide) (by decide) (by decide) (by decide))
  · exact ⟨-1, M, M, ⟨⟨by decide, Nat.le_of_ble_eq_true rfl⟩, fun K hK => q_L_turn_0 hK x M ⟨_, _, R_isPart 8 M x, br_f (fun q => c (b2_n0.mp q)) (mret_i rfl rfl)⟩⟩, ⟨⟨by decide, Nat.le_of_ble_eq_true rfl⟩, fun K hK => q_M_turn_0 hK x M ⟨_, _, R_in 8 _ _ _ _, br_f (fun q => c (by have q := b2_n0.mp q; omega)) (mret_i rfl rfl)⟩⟩, h⟩
