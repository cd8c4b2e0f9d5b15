/-! PURE PROOFS 40: best -/
def be1 (M : mMem) (k : Nat) (a : Int) (st : Int × Int) (c : Int) : Int × Int := if M 2 a = 0 ∧ 0 < M 3 c then off st (100 * (a / 6) + 10 * (a % 6) + c) (woS (M 4) (fup (M 2) a c) k) else st
def beA (M : mMem) (k : Nat) : Nat → Int × Int
  | 0 => (-4, woS (M 4) (M 2) k)
  | a + 1 => be1 M k (a : Nat) (be1 M k (a : Nat) (be1 M k (a : Nat) (beA M k a) 1) 2) 3
theorem beA_s (M : mMem) (k a : Nat) : beA M k (a + 1) = be1 M k (a : Nat) (be1 M k (a : Nat) (be1 M k (a : Nat) (beA M k a) 1) 2) 3 := rfl
def beV (q : Int) : Prop := q / 100 < 6 ∧ q / 10 % 10 < 6 ∧ 1 ≤ q % 10 ∧ q % 10 ≤ 3
def beG (M : mMem) (k : Nat) : Nat → Int × Int
  | 0 => (-4, woS (M 4) (M 2) k)
  | q + 1 => if ((q : Nat) : Int) / 100 < 6 ∧ ((q : Nat) : Int) / 10 % 10 < 6 ∧ 1 ≤ ((q : Nat) : Int) % 10 ∧ ((q : Nat) : Int) % 10 ≤ 3 then be1 M k (6 * (((q : Nat) : Int) / 100) + ((q : Nat) : Int) / 10 % 10) (beG M k q) (((q : Nat) : Int) % 10) else beG M k q
theorem beG_s (M : mMem) (k q : Nat) : beG M k (q + 1) = if ((q : Nat) : Int) / 100 < 6 ∧ ((q : Nat) : Int) / 10 % 10 < 6 ∧ 1 ≤ ((q : Nat) : Int) % 10 ∧ ((q : Nat) : Int) % 10 ≤ 3 then be1 M k (6 * (((q : Nat) : Int) / 100) + ((q : Nat) : Int) / 10 % 10) (beG M k q) (((q : Nat) : Int) % 10) else beG M k q := rfl
theorem beG_i (M : mMem) (k : Nat) {q : Nat} (h : ¬ (((q : Nat) : Int) / 100 < 6 ∧ ((q : Nat) : Int) / 10 % 10 < 6 ∧ 1 ≤ ((q : Nat) : Int) % 10 ∧ ((q : Nat) : Int) % 10 ≤ 3)) : beG M k (q + 1) = beG M k q := if_neg h
theorem beG_v (M : mMem) (k : Nat) {q x y : Nat} {c : Int} (h : (q : Int) = 100 * x + 10 * y + c) (hx : x < 6) (hy : y < 6) (hc : 1 ≤ c ∧ c ≤ 3) : beG M k (q + 1) = be1 M k ((6 * x + y : Nat) : Int) (beG M k q) c := by
  rw [beG_s, if_pos (by omega)]
  have e1 : 6 * (((q : Nat) : Int) / 100) + ((q : Nat) : Int) / 10 % 10 = ((6 * x + y : Nat) : Int) := by omega
  have e2 : ((q : Nat) : Int) % 10 = c := by omega
  rw [e1, e2]
theorem beG_10 (M : mMem) (k : Nat) {n x y : Nat} (h : n = 100 * x + 10 * y) (hx : x < 6) (hy : y < 6) : beG M k (n + 10) = be1 M k ((6 * x + y : Nat) : Int) (be1 M k ((6 * x + y : Nat) : Int) (be1 M k ((6 * x + y : Nat) : Int) (beG M k n) 1) 2) 3 := by
  rw [beG_i M k (q := n + 9) (by omega), beG_i M k (q := n + 8) (by omega), beG_i M k (q := n + 7) (by omega), beG_i M k (q := n + 6) (by omega), beG_i M k (q := n + 5) (by omega), beG_i M k (q := n + 4) (by omega), beG_v M k (q := n + 3) (x := x) (y := y) (c := 3) (by omega) hx hy (by omega), beG_v M k (q := n + 2) (x := x) (y := y) (c := 2) (by omega) hx hy (by omega), beG_v M k (q := n + 1) (x := x) (y := y) (c := 1) (by omega) hx hy (by omega), beG_i M k (q := n) (by omega)]
theorem beG_40 (M : mMem) (k x : Nat) : ∀ j : Nat, j ≤ 40 → beG M k (100 * x + 60 + j) = beG M k (100 * x + 60)
  | 0, _ => rfl
  | j + 1, h => by
    have e := beG_i M k (q := 100 * x + 60 + j) (by omega)
    exact e.trans (beG_40 M k x j (by omega))
theorem beG_y (M : mMem) (k x : Nat) (hx : x < 6) (h : beG M k (100 * x) = beA M k (6 * x)) : ∀ y : Nat, y ≤ 6 → beG M k (100 * x + 10 * y) = beA M k (6 * x + y)
  | 0, _ => h
  | y + 1, q => by
    have e := beG_10 M k (n := 100 * x + 10 * y) (x := x) (y := y) rfl hx (by omega)
    rw [beG_y M k x hx h y (by omega), ← beA_s] at e
    exact e
theorem beG_x (M : mMem) (k : Nat) : ∀ x : Nat, x ≤ 6 → beG M k (100 * x) = beA M k (6 * x)
  | 0, _ => rfl
  | x + 1, q => by
    have e := beG_y M k x (by omega) (beG_x M k x (by omega)) 6 (by omega)
    have f := beG_40 M k x 40 (by omega)
    exact f.trans e
theorem G_by (d : Nat) {m M : mMem} {p : Int} {f s : Int → Int} (h : PgC m M p f s) (hp : 0 ≤ p ∧ p ≤ 425) (q : Int) (hq : 0 ≤ q ∧ q < 600) : mR3 (d + 3) 159 [vr 53, vi p, vi q] (S0, m) (some (vi (b2 ((q / 10 % 10 < 6 ∧ 1 ≤ q % 10 ∧ q % 10 ≤ 3) ∧ f (6 * (q / 100) + q / 10 % 10) = 0 ∧ 0 < s (q % 10)))), (S0, if (q / 10 % 10 < 6 ∧ 1 ≤ q % 10 ∧ q % 10 ≤ 3) ∧ f (6 * (q / 100) + q / 10 % 10) = 0 ∧ 0 < s (q % 10) then stM m p (6 * (q / 100) + q / 10 % 10) (q % 10) else m)) := by
  refine ⟨⟨by decide, Nat.le_of_ble_eq_true rfl⟩, fun K hK => q_M_stitchesBy_0 hK p q m ?_⟩
  have j1 : jdiv q 100 = q / 100 := jdiv_nn hq.1 (by omega) (by omega)
  have j2 : jrem (jdiv q 10) 10 = q / 10 % 10 := by rw [jdiv_nn hq.1 (by omega) (by omega), jrem_nn (by omega)]
  have j3 : jrem q 10 = q % 10 := jrem_nn hq.1
  have x6 : 0 ≤ q / 100 ∧ q / 100 < 6 := by omega
  have y9 : 0 ≤ q / 10 % 10 ∧ q / 10 % 10 < 10 := by omega
  rw [j1, j2, j3]
  generalize q / 100 = x at x6 ⊢
  generalize q / 10 % 10 = y at y9 ⊢
  generalize q % 10 = c
  refine ⟨_, _, R_mIsCell d m x y, fun z => mret_i (b2_f ?_).symm (if_neg ?_).symm, fun z => ⟨_, _, R_mIsColour d m c, fun z2 => mret_i (b2_f ?_).symm (if_neg ?_).symm, fun z2 => ?_⟩⟩
  · have z := b2_0.mp z
    omega
  · have z := b2_0.mp z
    omega
  · have z2 := b2_0.mp z2
    omega
  · have z2 := b2_0.mp z2
    omega
  · have z := b2_n0.mp z
    have z2 := b2_n0.mp z2
    have w : w32 (w32 (6 * x) + y) = 6 * x + y := by rw [w32_s (z := 6 * x) (by omega) (by omega), w32_s (by omega) (by omega)]
    rw [w]
    have g := G_stitch (d + 1) h hp (t := 6 * x + y) (c := c) (by omega) z2
    refine ⟨_, _, g, fun z3 => mret_i (b2_f ?_).symm ?_, fun z3 => mret_i (b2_t ?_).symm ?_⟩
    · exact fun w => b2_0.mp z3 w.2
    · rw [if_neg (b2_0.mp z3), if_neg (fun w => b2_0.mp z3 w.2)]
    · exact ⟨by omega, b2_n0.mp z3⟩
    · rw [if_pos (b2_n0.mp z3), if_pos ⟨by omega, b2_n0.mp z3⟩]
theorem P_best {M : mMem} (h : Inv M) (x : Int) : PairI 65 160 [vi x] M := by
  have hc := h.1
  have hp := Pg0_of h.2.1
  have n5 : 0 ≤ M 1 5 ∧ M 1 5 ≤ 5 := hc.2.1
  obtain ⟨k, hk⟩ : ∃ k : Nat, M 1 5 = k := ⟨(M 1 5).toNat, by omega⟩
  have k5 : k ≤ 5 := by omega
  by_cases c : x = 0 ∨ x = 1
  · refine ask_pair (V := tld (beA M k 36) x) h ?_ (fun m hm => ?_)
    · refine mI3_i ⟨by decide, Nat.le_of_ble_eq_true rfl⟩ (fun K hK => ?_)
      have step : ∀ (a b : Int) (st : Int × Int), 0 ≤ a → a < 36 → 1 ≤ b → b ≤ 3 → (∀ m2, TrC m2 M (M 2) (M 3) → ChC m2 (be1 M k a st b) → FrL m2 M → K 44 [(0, vr 0), (1, vi x), (2, vi a), (3, vi (b + 1))] [] (S0, m2)) → ∀ m', TrC m' M (M 2) (M 3) → ChC m' st → FrL m' M → K 44 [(0, vr 0), (1, vi x), (2, vi a), (3, vi b)] [] (S0, m') := by
        intro a b st a1 a3 b1 b3 fin m' h0 h1 h2
        refine q_L_best_44 hK _ _ _ m' (br_f (by omega) ⟨_, _, T_can 8 h0 ⟨a1, a3⟩ ⟨b1, b3⟩, ?_⟩)
        rw [w32_s (z := b + 1) (by omega) (by omega)]
        unfold be1 at fin
        refine ⟨fun q => ?_, fun q => ?_⟩
        · rw [if_neg (b2_0.mp q)] at fin
          exact fin m' h0 h1 h2
        · have q := b2_n0.mp q
          rw [if_pos q] at fin
          have t1 := T_put h0 ⟨a1, a3⟩ (v := b) (by omega)
          have u1 : ∀ k : Nat, k ≠ 10 → k ≠ 15 → k ≠ 16 → putM m' 9 a b k = m' k := fun k a b c => put_ne _ _ _ _ a b c
          have c1 : ChC (putM m' 9 a b) st := by
            unfold ChC
            rw [u1 37 (by decide) (by decide) (by decide)]
            exact h1
          refine ⟨_, R_put 7 m' 9 (by omega) a b ⟨a1, a3⟩ (by omega) h0.1.1.1, _, _, R_stitchCode 8 _ ⟨a1, a3⟩ (by omega), _, _, T_worth 6 t1 hk k5, cN (C_offer 8 c1 _ _) (fun m2 p => ?_)⟩
          obtain ⟨p1, p2⟩ := p
          have t2 : TrC m2 M (fup (M 2) a b) (M 3) := T_eq t1 (fun k a b => p2 k (by omega)) (by rw [p2 9 (by decide)]) (by rw [p2 9 (by decide)])
          have t3 : TrC (putM m2 9 a 0) M (M 2) (M 3) := T_cong (T_put t2 ⟨a1, a3⟩ (v := 0) (by omega)) (fun y _ _ => by
            unfold fup
            split
            · rename_i e
              rw [e, q.1]
            · rfl)
          have u2 : ∀ k : Nat, k ≠ 10 → k ≠ 15 → k ≠ 16 → putM m2 9 a 0 k = m2 k := fun k a b c => put_ne _ _ _ _ a b c
          refine ⟨_, R_put 7 m2 9 (by omega) a 0 ⟨a1, a3⟩ (by omega) t2.1.1.1, fin _ t3 ?_ (FrL_row (FrL_row (FrL_row h2 (fun k a _ _ _ _ _ => u1 k (by omega) (by omega) (by omega))) (fun k _ a _ _ _ _ => p2 k a)) (fun k a _ _ _ _ _ => u2 k (by omega) (by omega) (by omega)))⟩
          unfold ChC
          rw [u2 37 (by decide) (by decide) (by decide)]
          exact p1
      have loop : ∀ (j i : Nat), i + j = 36 → ∀ m' : mMem, TrC m' M (M 2) (M 3) → ChC m' (beA M k i) → FrL m' M → K 36 [(0, vr 0), (1, vi x), (2, vi (i : Int))] [] (S0, m') := by
        intro j
        induction j with
        | zero =>
          intro i hi m' h0 h1 h2
          rw [show i = 36 by omega] at h1 ⊢
          exact q_L_best_36 hK _ _ m' (br_t (by decide) ⟨_, _, C_told 8 h1 x, rI_i ⟨rfl, h2⟩⟩)
        | succ j ih =>
          intro i hi m' h0 h1 h2
          have ew : w32 ((i : Int) + 1) = ((i + 1 : Nat) : Int) := by rw [w32_s (by omega) (by omega)]; omega
          refine q_L_best_36 hK _ _ m' (br_f (by omega) ?_)
          refine step i 1 _ (by omega) (by omega) (by decide) (by decide) (fun m2 g0 g1 g2 => ?_) m' h0 h1 h2
          refine step i 2 _ (by omega) (by omega) (by decide) (by decide) (fun m3 g0 g1 g2 => ?_) m2 g0 g1 g2
          refine step i 3 _ (by omega) (by omega) (by decide) (by decide) (fun m4 g0 g1 g2 => ?_) m3 g0 g1 g2
          refine q_L_best_44 hK _ _ _ m4 (br_t (by decide) ?_)
          rw [ew]
          exact ih (i + 1) (by omega) m4 g0 g1 g2
      have t0 := T_copy (m := M) hc (fun _ _ _ => rfl)
      refine q_L_best_0 hK x M ⟨_, _, R_isPart 8 M x, br_t (b2_n0.mpr c) ⟨_, R_copyFrom 8 M 9 1 (by unfold cpP; omega), _, _, T_worth 6 t0 hk k5, cN (C_begin 8 _ _) (fun m2 p => ?_)⟩⟩
      exact loop 36 0 (by omega) m2 (T_eq t0 (fun k a b => p.2 k (by omega)) (by rw [p.2 9 (by decide)]) (by rw [p.2 9 (by decide)])) p.1 (FrL_row (FrL_row (FrL_refl M) (fun k a _ _ _ _ _ => cpy_ne M (by omega))) (fun k _ a _ _ _ _ => p.2 k a))
    · refine mI3_i ⟨by decide, Nat.le_of_ble_eq_true rfl⟩ (fun K hK => ?_)
      have m54 := (FrL_lo hm).2
      have loop : ∀ (j i : Nat), i + j = 600 → ∀ (m' : mMem) (w : Int), WhM m' w (beG M k i) → FrM m' m → K 26 [(0, vr 53), (1, vi x), (2, vi w), (3, vi (i : Int))] [] (S0, m') := by
        intro j
        induction j with
        | zero =>
          intro i hi m' w h1 h2
          rw [show i = 600 by omega, beG_x M k 6 (by decide)] at h1
          rw [show i = 600 by omega]
          have t := W_told h1 x
          refine q_M_best_26 hK _ _ _ m' (br_t (by decide) ⟨fun q => rI_i ⟨?_, h2⟩, fun q => ⟨fun q2 => rI_i ⟨?_, h2⟩, fun q2 => rI_i ⟨?_, h2⟩⟩⟩)
          · exact Eq.trans (by rw [if_pos q]) t
          · exact Eq.trans (by rw [if_neg q, if_pos q2]) t
          · exact Eq.trans (by rw [if_neg q, if_neg q2]) t
        | succ j ih =>
          intro i hi m' w h1 h2
          have h4 := ih (i + 1) (by omega)
          rw [beG_s] at h4
          generalize beG M k i = st at h1 h4
          have hz : ∃ z : Int, z = (i : Int) := ⟨_, rfl⟩
          obtain ⟨z, hz⟩ := hz
          have ez : ((i + 1 : Nat) : Int) = z + 1 := by omega
          rw [ez, ← hz] at h4
          rw [← hz]
          have zb : 0 ≤ z ∧ z < 600 := by omega
          clear hz ez hi ih
          have ew : w32 (z + 1) = z + 1 := w32_s (by omega) (by omega)
          have g := G_copy (m := m') (p := 340) h.2.1 hc (fun a q0 q1 => by rw [h2.2.2.2.2.2 a q0 (by omega), m54])
          have c53 : mcpy m' 54 0 54 340 85 53 = m' 53 := mcpy_ne _ _ _ _ _ (by decide)
          have fr := FrM_cpy (s := 0) h2 (show (255 : Int) ≤ 340 by decide)
          refine q_M_best_26 hK _ _ _ m' (br_f (by omega) ⟨_, R_copies 8 m' 0 340 (by omega) (by omega) (by omega), ?_⟩)
          generalize mcpy m' 54 0 54 340 85 = m0 at g c53 fr
          have by1 := G_by 6 g (by omega) z zb
          refine ⟨_, _, by1, ?_⟩
          rw [ew]
          have v1 : z / 100 < 6 := by omega
          have dn : 6 * (z / 100) + z / 10 % 10 = 6 * (z / 100) + z / 10 % 10 := rfl
          refine ⟨fun q => ?_, fun q => ?_⟩
          · have q := b2_0.mp q
            rw [if_neg q]
            have e0 : (if z / 100 < 6 ∧ z / 10 % 10 < 6 ∧ 1 ≤ z % 10 ∧ z % 10 ≤ 3 then be1 M k (6 * (z / 100) + z / 10 % 10) st (z % 10) else st) = st := by
              split
              · rename_i y
                unfold be1
                rw [if_neg (fun u => q ⟨y.2, u⟩)]
              · rfl
            rw [e0] at h4
            exact h4 m0 w ⟨h1.1, by rw [c53, h1.2]⟩ fr
          · have q := b2_n0.mp q
            rw [if_pos q]
            have e0 : (if z / 100 < 6 ∧ z / 10 % 10 < 6 ∧ 1 ≤ z % 10 ∧ z % 10 ≤ 3 then be1 M k (6 * (z / 100) + z / 10 % 10) st (z % 10) else st) = off st z (woS (M 4) (fup (M 2) (6 * (z / 100) + z / 10 % 10) (z % 10)) k) := by
              rw [if_pos ⟨v1, q.1⟩]
              unfold be1
              have y9 := q.1
              rw [if_pos q.2, show 100 * ((6 * (z / 100) + z / 10 % 10) / 6) + 10 * ((6 * (z / 100) + z / 10 % 10) % 6) + z % 10 = z by omega]
            rw [e0] at h4
            have y9 := q.1
            have st1 := G_st g hc (t := 6 * (z / 100) + z / 10 % 10) (v := z % 10) (by omega) q.1.2 q.2.2
            refine ⟨_, _, G_worth 6 st1 (by omega) hc hk k5, cI (G_more 8 _ _) (fun v m2 p => ?_)⟩
            obtain ⟨v1, v2, _, v4⟩ := p
            have s53 : stM m0 340 (6 * (z / 100) + z / 10 % 10) (z % 10) 53 = m' 53 := by rw [stM_ne _ _ _ _ (by decide), c53]
            have c1 : WhM (stM m0 340 (6 * (z / 100) + z / 10 % 10) (z % 10)) w st := ⟨h1.1, by rw [s53, h1.2]⟩
            have c2 := W_more (code := z) c1 v1 v2
            have h3 := h4 m2 _ c2 (FrM_trans v4 (FrM_st fr (by decide) (by omega) (by omega)))
            refine ⟨fun y => ?_, fun y => ?_⟩
            · rw [if_pos y] at h3
              exact h3
            · rw [if_neg y] at h3
              exact h3
      refine q_M_best_0 hK x m ⟨_, _, R_in 8 _ _ _ _, br_t (b2_n0.mpr (by omega)) ⟨_, _, G_worth 6 (G_0 h.2.1 hc (fun a q0 q1 => by rw [m54])) (by omega) hc hk k5, ?_⟩⟩
      exact loop 600 0 (by omega) _ _ ⟨rfl, by rw [mupd_at, fup_at]; rfl⟩ (FrM_53 (FrM_refl m) (by decide) (by decide) (by decide) (by decide))
  · exact ⟨-1, M, M, ⟨⟨by decide, Nat.le_of_ble_eq_true rfl⟩, fun K hK => q_L_best_0 hK x M ⟨_, _, R_isPart 8 M x, br_f (fun q => c (b2_n0.mp q)) (mret_i rfl rfl)⟩⟩, ⟨⟨by decide, Nat.le_of_ble_eq_true rfl⟩, fun K hK => q_M_best_0 hK x M ⟨_, _, R_in 8 _ _ _ _, br_f (fun q => c (by have q := b2_n0.mp q; omega)) (mret_i rfl rfl)⟩⟩, h⟩
