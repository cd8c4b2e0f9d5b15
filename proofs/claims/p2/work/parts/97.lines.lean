/-! PURE PROOFS 72: lines, the class -/
abbrev Sig : Type := (Int → Int) × (Int → Int) × (Int → Int) × Int × Int × Int
def roP (b : Int → Int) (L y : Int) : Nat → Int → Int → (Int → Int) → Int × Int × Int × (Int → Int)
  | 0, _, n, g => (0, 0, n, g)
  | j + 1, x, n, g => if tB b L n ≠ 0 then (1, tS b L n, n, g) else if tT b L n = 3 then (0, 0, tE b L n, g) else if tT b L n ≠ 2 then (2, tS b L n, n, g) else if 6 ≤ x then (5, tS b L n, n, g) else if 4 < tV b L n then (3, tS b L n, n, g) else roP b L y j (x + 1) (tE b L n) (fup g (6 * x + y) (tV b L n))
theorem roP_s (b : Int → Int) (L y : Int) (j : Nat) (x n : Int) (g : Int → Int) : roP b L y (j + 1) x n g = if tB b L n ≠ 0 then (1, tS b L n, n, g) else if tT b L n = 3 then (0, 0, tE b L n, g) else if tT b L n ≠ 2 then (2, tS b L n, n, g) else if 6 ≤ x then (5, tS b L n, n, g) else if 4 < tV b L n then (3, tS b L n, n, g) else roP b L y j (x + 1) (tE b L n) (fup g (6 * x + y) (tV b L n)) := rfl
def rwP (b : Int → Int) (L n : Int) (q : Sig) : Int × Int × Int × Sig := if otK b L 0 5 q.2.2.2.2.1 n ≠ 0 then (otK b L 0 5 q.2.2.2.2.1 n, tS b L n, n, q) else ((roP b L (tV b L n) 7 0 (tE b L n) q.1).1, (roP b L (tV b L n) 7 0 (tE b L n) q.1).2.1, (roP b L (tV b L n) 7 0 (tE b L n) q.1).2.2.1, ((roP b L (tV b L n) 7 0 (tE b L n) q.1).2.2.2, q.2.1, q.2.2.1, q.2.2.2.1, jor q.2.2.2.2.1 (jshl 1 (tV b L n)), q.2.2.2.2.2))
def thP (b : Int → Int) (L n : Int) (q : Sig) : Int × Int × Int × Sig := if otK b L 1 3 q.2.2.2.2.2 n ≠ 0 then (otK b L 1 3 q.2.2.2.2.2 n, tS b L n, n, q) else if nuK b L 0 99 (tE b L n) ≠ 0 then (nuK b L 0 99 (tE b L n), tS b L (tE b L n), n, q) else if stK b L (tE b L (tE b L n)) ≠ 0 then (stK b L (tE b L (tE b L n)), tS b L (tE b L (tE b L n)), n, q) else (0, 0, tE b L (tE b L (tE b L n)), (q.1, fup q.2.1 (tV b L n) (tV b L (tE b L n)), q.2.2.1, q.2.2.2.1, q.2.2.2.2.1, jor q.2.2.2.2.2 (jshl 1 (tV b L n))))
def laW (W : Int → Int) (c kd x y z : Int) : Int → Int := fup (fup (fup (fup W (4 * c) kd) (4 * c + 1) x) (4 * c + 2) y) (4 * c + 3) z
def laP (b : Int → Int) (L kd p n : Int) (q : Sig) : Int × Int × Int × Sig := if 5 ≤ q.2.2.2.1 then (5, p, n, q) else if nuK b L 1 3 n ≠ 0 then (nuK b L 1 3 n, tS b L n, n, q) else if nuK b L 1 3 (tE b L n) ≠ 0 then (nuK b L 1 3 (tE b L n), tS b L (tE b L n), n, q) else if nuK b L 1 9 (tE b L (tE b L n)) ≠ 0 then (nuK b L 1 9 (tE b L (tE b L n)), tS b L (tE b L (tE b L n)), n, q) else if stK b L (tE b L (tE b L (tE b L n))) ≠ 0 then (stK b L (tE b L (tE b L (tE b L n))), tS b L (tE b L (tE b L (tE b L n))), n, q) else (0, 0, tE b L (tE b L (tE b L (tE b L n))), (q.1, q.2.1, laW q.2.2.1 q.2.2.2.1 kd (tV b L n) (tV b L (tE b L n)) (tV b L (tE b L (tE b L n))), q.2.2.2.1 + 1, q.2.2.2.2.1, q.2.2.2.2.2))
def TrT (A : mMem) (q : Sig) : Prop := Cht A 9 ∧ (∀ i : Int, 0 ≤ i → i < 36 → A 10 i = q.1 i) ∧ (∀ c : Int, 1 ≤ c → c ≤ 3 → A 11 c = q.2.1 c) ∧ (∀ i : Int, 0 ≤ i → i < 4 * q.2.2.2.1 → A 12 i = q.2.2.1 i) ∧ A 9 5 = q.2.2.2.1 ∧ A 9 6 = 0 ∧ A 35 8 = q.2.2.2.2.1 ∧ A 35 9 = q.2.2.2.2.2
def LFr (A' A : mMem) : Prop := (∀ k : Nat, (k < 9 ∨ 17 ≤ k) → k ≠ 35 → A' k = A k) ∧ A' 35 1 = A 35 1
theorem LFr_refl (A : mMem) : LFr A A := ⟨fun _ _ _ => rfl, rfl⟩
theorem LFr_trans {A B C : mMem} (h : LFr A B) (g : LFr B C) : LFr A C := ⟨fun k q r => (h.1 k q r).trans (g.1 k q r), h.2.trans g.2⟩
theorem LFr_t {A' A : mMem} (h : TFr A' A) : LFr A' A := ⟨fun k _ q => h.1 k q, h.2.1⟩
theorem TpL_l {A' A : mMem} {b : Int → Int} {L : Int} (h : TpL A b L) (f : LFr A' A) : TpL A' b L := ⟨by rw [f.1 36 (by omega) (by decide), h.1], by rw [f.2, h.2.1], h.2.2⟩
theorem TrT_t {A' A : mMem} {q : Sig} (h : TrT A q) (f : TFr A' A) : TrT A' q := by
  obtain ⟨c, h1, h2, h3, h4, h5, h6, h7⟩ := h
  refine ⟨Cht_eq c (fun k a b => f.1 k (by omega)), ?_, ?_, ?_, ?_, ?_, ?_, ?_⟩
  · rw [f.1 10 (by decide)]
    exact h1
  · rw [f.1 11 (by decide)]
    exact h2
  · rw [f.1 12 (by decide)]
    exact h3
  · rw [f.1 9 (by decide), h4]
  · rw [f.1 9 (by decide), h5]
  · rw [f.2.2.1, h6]
  · rw [f.2.2.2, h7]
/-- how a piece of a line ends -/
def LnL (A A' : mMem) (r : Int × Int × Int × Sig) : Prop := LFr A' A ∧ ((r.1 = 0 ∧ A' 35 2 = 0 ∧ A' 35 4 = r.2.2.1 ∧ TrT A' r.2.2.2) ∨ (r.1 ≠ 0 ∧ A' 35 2 = r.1 ∧ A' 35 3 = r.2.1))
theorem jbit0 (v : Int) : jand (jshr 0 v) 1 ≠ 1 := by
  have e : jshr 0 v = 0 := by
    unfold jshr
    rw [show Int32.ofInt 0 = 0 from rfl, Int32.zero_shiftRight]
    rfl
  rw [e]
  decide
theorem T_cell (d : Nat) {A : mMem} {x y : Int} {q : Sig} {v : Int} (h : TrT A q) (h2 : A 35 2 = 0) (h5 : A 35 5 = 2) (h7 : A 35 7 = v) (hx : 0 ≤ x ∧ x < 6) (hy : 0 ≤ y ∧ y < 6) (hv : 0 ≤ v ∧ v ≤ 4) : mN3 (d + 3) 39 [vr 35, vr 9, vi x, vi y] A (fun A' => LFr A' A ∧ A' 35 = A 35 ∧ TrT A' (fup q.1 (6 * x + y) v, q.2)) := by
  obtain ⟨c, h1, h22, h3, h4, h55, h6, h77⟩ := h
  have w : w32 (w32 (x * 6) + y) = 6 * x + y := by
    rw [w32_s (z := x * 6) (by omega) (by omega), w32_s (by omega) (by omega)]
    omega
  have e : ∀ k : Nat, k ≠ 10 → k ≠ 15 → k ≠ 16 → putM A 9 (6 * x + y) v k = A k := fun k a b c => put_ne _ _ _ _ a b c
  have e1 : putM A 9 (6 * x + y) v 10 = fup (A 10) (6 * x + y) v := put_cel A 9 _ v
  refine mN3_i ⟨by decide, Nat.le_of_ble_eq_true rfl⟩ (fun K hK => q_T_takeCell_0 hK x y A (br_t h2 (br_t h5 (br_t hx.2 ?_))))
  rw [h7, w]
  refine br_t hv.2 ⟨_, R_put d A 9 (by omega) (6 * x + y) v (by omega) hv c.1.1, rN_i ⟨⟨fun k a b => e k (by omega) (by omega) (by omega), by rw [e 35 (by decide) (by decide) (by decide)]⟩, e 35 (by decide) (by decide) (by decide), put_cht c (by omega) hv, ?_, ?_, ?_, ?_, ?_, ?_, ?_⟩⟩
  · intro i a b
    rw [e1]
    show fup (A 10) (6 * x + y) v i = fup q.1 (6 * x + y) v i
    unfold fup
    rw [h1 i a b]
  · rw [e 11 (by decide) (by decide) (by decide)]
    exact h22
  · rw [e 12 (by decide) (by decide) (by decide)]
    exact h3
  · rw [e 9 (by decide) (by decide) (by decide)]
    exact h4
  · rw [e 9 (by decide) (by decide) (by decide)]
    exact h55
  · rw [e 35 (by decide) (by decide) (by decide)]
    exact h6
  · rw [e 35 (by decide) (by decide) (by decide)]
    exact h77
theorem T_row (d : Nat) {A : mMem} {b : Int → Int} {L n : Int} {q : Sig} (tp : TpL A b L) (hn : 0 ≤ n ∧ n ≤ L) (h : TrT A q) (h2 : A 35 2 = 0) (h4 : A 35 4 = n) : mN3 (d + 4) 38 [vr 35, vr 9] A (fun A' => LnL A A' (rwP b L n q)) := by
  have er := (tE_rng (b := b) hn).2.1
  have sr := (tE_rng (b := b) hn).1
  refine mN3_i ⟨by decide, Nat.le_of_ble_eq_true rfl⟩ (fun K hK => q_T_readRow_0 hK A (cI (T_num d tp hn h2 h4) (fun v A1 p => ?_)))
  obtain ⟨f, e6, p⟩ := p
  have eO : otK b L 0 5 q.2.2.2.2.1 n = if nuK b L 0 5 n ≠ 0 then nuK b L 0 5 n else if q.2.2.2.2.1 ≠ 0 ∧ jand (jshr q.2.2.2.2.1 (tV b L n)) 1 = 1 then 4 else 0 := rfl
  have eR : rwP b L n q = if otK b L 0 5 q.2.2.2.2.1 n ≠ 0 then (otK b L 0 5 q.2.2.2.2.1 n, tS b L n, n, q) else ((roP b L (tV b L n) 7 0 (tE b L n) q.1).1, (roP b L (tV b L n) 7 0 (tE b L n) q.1).2.1, (roP b L (tV b L n) 7 0 (tE b L n) q.1).2.2.1, ((roP b L (tV b L n) 7 0 (tE b L n) q.1).2.2.2, q.2.1, q.2.2.1, q.2.2.2.1, jor q.2.2.2.2.1 (jshl 1 (tV b L n)), q.2.2.2.2.2)) := rfl
  generalize rwP b L n q = R at *
  have h1 := TrT_t h f
  have e8 : A1 35 8 = q.2.2.2.2.1 := h1.2.2.2.2.2.2.1
  have dead : ∀ (k x : Int) (A2 : mMem), k ≠ 0 → R.1 = k → R.2.1 = tS b L n → A2 35 2 = k → A2 35 3 = tS b L n → LFr A2 A → K 24 [(0, vr 35), (1, vr 9), (2, vi x)] [] (S0, A2) := by
    intro k x A2 k0 r1 r2 a2 a3 lf
    refine q_T_readRow_24 hK x A2 (q_T_readRow_38 hK x 0 _ (br_f (by decide) (br_t ?_ (rN_i ⟨?_, Or.inr ⟨by rw [r1]; exact k0, ?_, ?_⟩⟩))))
    · rw [mupd_at, fup_ne _ _ (by decide), a2]
      exact k0
    · exact LFr_trans ⟨fun k _ w => mupd_ne _ _ _ w, by rw [mupd_at, fup_ne _ _ (by decide)]⟩ lf
    · rw [mupd_at, fup_ne _ _ (by decide), a2, r1]
    · rw [mupd_at, fup_ne _ _ (by decide), a3, r2]
  rw [e8]
  rcases p with ⟨k0, ev, vb, e2, e3, e4⟩ | ⟨k1, ev, e2, e3⟩
  · rw [if_neg (fun w => w k0)] at eO
    rw [ev]
    by_cases bt : jand (jshr q.2.2.2.2.1 (tV b L n)) 1 ≠ 1
    · rw [if_neg (fun w => bt w.2)] at eO
      rw [if_neg (fun w => w eO)] at eR
      refine br_t bt (q_T_readRow_24 hK _ A1 ?_)
      rw [e8]
      rw [ev] at vb
      generalize tV b L n = y at *
      have yb : 0 ≤ y ∧ y < 6 := by omega
      generalize hr : roP b L y 7 0 (tE b L n) q.1 = r at eR
      have loop : ∀ (j : Nat) (x m : Int) (g : Int → Int), x + j = 7 → 0 ≤ x → 0 ≤ m → m ≤ L → roP b L y j x m g = r → ∀ A2 : mMem, LFr A2 A → TrT A2 (g, q.2.1, q.2.2.1, q.2.2.2.1, jor q.2.2.2.2.1 (jshl 1 y), q.2.2.2.2.2) → A2 35 2 = 0 → A2 35 4 = m → K 38 [(0, vr 35), (1, vr 9), (2, vi y), (3, vi x)] [] (S0, A2) := by
        intro j
        induction j with
        | zero =>
          intro x m g hx x0 m0 m1 he A2 lf tt a2 a4
          have he : ((0 : Int), (0 : Int), m, g) = r := he
          rw [← he] at eR
          refine q_T_readRow_38 hK y x A2 (br_t (by omega) (rN_i ⟨lf, Or.inl ⟨?_, a2, ?_, ?_⟩⟩))
          · rw [eR]
          · rw [eR]
            exact a4
          · rw [eR]
            exact tt
        | succ j ih =>
          intro x m g hx x0 m0 m1 he A2 lf tt a2 a4
          have tp2 := TpL_l tp lf
          have tk := T_token (d + 1) (A := A2) (n := m) (by rw [tp2.2.1]; omega) (by rw [tp2.2.1]; exact tp2.2.2.1.2) (by rw [tp2.1, tp2.2.1]; exact tp2.2.2.2) a2 a4
          have mr := tE_rng (b := b) (L := L) (n := m) ⟨m0, m1⟩
          rw [roP_s] at he
          refine q_T_readRow_38 hK y x A2 (br_f (by omega) (br_f (fun w => w a2) (cN tk (fun A3 p3 => ?_))))
          unfold TkL at p3
          rw [tp2.1, tp2.2.1] at p3
          obtain ⟨f3, c6, p3⟩ := p3
          have lf3 := LFr_trans (LFr_t f3) lf
          have tt3 := TrT_t tt f3
          have ew : w32 (x + 1) = x + 1 := w32_s (by omega) (by omega)
          have stopd : ∀ (k : Int) (A4 : mMem), k ≠ 0 → r.1 = k → r.2.1 = tS b L m → A4 35 2 = k → A4 35 3 = tS b L m → LFr A4 A → K 38 [(0, vr 35), (1, vr 9), (2, vi y), (3, vi (w32 (x + 1)))] [] (S0, A4) := by
            intro k A4 k0 r1 r2 b2' b3 lf4
            have fin : rN (fun A' => LnL A A' R) none (S0, A4) := rN_i ⟨lf4, Or.inr ⟨by rw [eR]; show r.1 ≠ 0; rw [r1]; exact k0, by rw [eR]; show A4 35 2 = r.1; rw [r1, b2'], by rw [eR]; show A4 35 3 = r.2.1; rw [r2, b3]⟩⟩
            exact q_T_readRow_38 hK y _ A4 ⟨fun _ => fin, fun _ => br_t (by rw [b2']; exact k0) fin⟩
          rcases p3 with ⟨b0, c2, c3, c5, c4, c7⟩ | ⟨b1, c2, c3⟩
          · rw [if_neg (fun w => w b0)] at he
            refine br_f (fun w => w c2) ⟨fun w => ?_, fun w => ?_⟩
            · rw [c5] at w
              rw [if_neg w] at he
              by_cases t2 : tT b L m ≠ 2
              · rw [if_pos t2] at he
                have tc : mN3 (d + 3) 39 [vr 35, vr 9, vi x, vi y] A3 (fun A' => LFr A' A3 ∧ A' 35 2 = 2 ∧ A' 35 3 = tS b L m) := by
                  refine mN3_i ⟨by decide, Nat.le_of_ble_eq_true rfl⟩ (fun K hK => q_T_takeCell_0 hK x y A3 (br_t c2 (br_f (by rw [c5]; exact t2) (cN (T_fail (d + 1) A3 2) (fun A4 p4 => ?_)))))
                  rcases p4.2.2.2.2.2 with ⟨u, _⟩ | ⟨_, u1, u2⟩
                  · exact absurd c2 u
                  · exact rN_i ⟨LFr_t p4.1, u1, by rw [u2, c6]⟩
                exact q_T_readRow_71 hK y x A3 (cN tc (fun A4 p4 => stopd 2 A4 (by decide) (by rw [← he]) (by rw [← he]) p4.2.1 p4.2.2 (LFr_trans p4.1 lf3)))
              · rw [if_neg t2] at he
                have t2 := Decidable.not_not.mp t2
                have c7 := c7 t2
                have vrg := tV_rng (b := b) tp.2.2.2 ⟨m0, m1⟩ b0 t2
                by_cases x6 : 6 ≤ x
                · rw [if_pos x6] at he
                  have tc : mN3 (d + 3) 39 [vr 35, vr 9, vi x, vi y] A3 (fun A' => LFr A' A3 ∧ A' 35 2 = 5 ∧ A' 35 3 = tS b L m) := by
                    refine mN3_i ⟨by decide, Nat.le_of_ble_eq_true rfl⟩ (fun K hK => q_T_takeCell_0 hK x y A3 (br_t c2 (br_t (by rw [c5]; exact t2) (br_f (by omega) (cN (T_fail (d + 1) A3 5) (fun A4 p4 => ?_))))))
                    rcases p4.2.2.2.2.2 with ⟨u, _⟩ | ⟨_, u1, u2⟩
                    · exact absurd c2 u
                    · exact rN_i ⟨LFr_t p4.1, u1, by rw [u2, c6]⟩
                  exact q_T_readRow_71 hK y x A3 (cN tc (fun A4 p4 => stopd 5 A4 (by decide) (by rw [← he]) (by rw [← he]) p4.2.1 p4.2.2 (LFr_trans p4.1 lf3)))
                · rw [if_neg x6] at he
                  by_cases v4 : 4 < tV b L m
                  · rw [if_pos v4] at he
                    have tc : mN3 (d + 3) 39 [vr 35, vr 9, vi x, vi y] A3 (fun A' => LFr A' A3 ∧ A' 35 2 = 3 ∧ A' 35 3 = tS b L m) := by
                      refine mN3_i ⟨by decide, Nat.le_of_ble_eq_true rfl⟩ (fun K hK => q_T_takeCell_0 hK x y A3 (br_t c2 (br_t (by rw [c5]; exact t2) (br_t (by omega) (br_f (by rw [c7]; omega) (cN (T_fail (d + 1) A3 3) (fun A4 p4 => ?_)))))))
                      rcases p4.2.2.2.2.2 with ⟨u, _⟩ | ⟨_, u1, u2⟩
                      · exact absurd c2 u
                      · exact rN_i ⟨LFr_t p4.1, u1, by rw [u2, c6]⟩
                    exact q_T_readRow_71 hK y x A3 (cN tc (fun A4 p4 => stopd 3 A4 (by decide) (by rw [← he]) (by rw [← he]) p4.2.1 p4.2.2 (LFr_trans p4.1 lf3)))
                  · rw [if_neg v4] at he
                    refine q_T_readRow_71 hK y x A3 (cN (T_cell d tt3 c2 (by rw [c5, t2]) c7 (x := x) (y := y) (by omega) yb (by omega)) (fun A4 p4 => ?_))
                    rw [ew]
                    exact ih (x + 1) (tE b L m) _ (by omega) (by omega) (by omega) mr.2.1.2 he A4 (LFr_trans p4.1 lf3) p4.2.2 (by rw [p4.2.1, c2]) (by rw [p4.2.1, c4])
            · rw [c5] at w
              rw [if_pos (Decidable.not_not.mp w)] at he
              refine rN_i ⟨lf3, Or.inl ⟨?_, c2, ?_, ?_⟩⟩
              · rw [eR, ← he]
              · rw [eR, ← he]
                exact c4
              · rw [eR, ← he]
                exact tt3
          · rw [if_pos b1] at he
            refine br_t (by rw [c2]; decide) ?_
            have tc : mN3 (d + 3) 39 [vr 35, vr 9, vi x, vi y] A3 (fun A' => A' = A3) := mN3_i ⟨by decide, Nat.le_of_ble_eq_true rfl⟩ (fun K hK => q_T_takeCell_0 hK x y A3 (br_f (by rw [c2]; decide) (rN_i rfl)))
            refine q_T_readRow_71 hK y x A3 (cN tc (fun A4 p4 => ?_))
            rw [p4]
            exact stopd 1 A3 (by decide) (by rw [← he]) (by rw [← he]) c2 c3 lf3
      refine loop 7 0 (tE b L n) q.1 (by omega) (by omega) (by omega) er.2 hr _ (LFr_trans ⟨fun k _ w => mupd_ne _ _ _ w, by rw [mupd_at, fup_ne _ _ (by decide)]⟩ (LFr_t f)) ?_ ?_ ?_
      · obtain ⟨c, g1, g2, g3, g4, g5, g6, g7⟩ := h1
        refine ⟨Cht_eq c (fun k a b => mupd_ne _ _ _ (by omega)), ?_, ?_, ?_, ?_, ?_, ?_, ?_⟩
        · rw [mupd_ne _ _ _ (by decide)]
          exact g1
        · rw [mupd_ne _ _ _ (by decide)]
          exact g2
        · rw [mupd_ne _ _ _ (by decide)]
          exact g3
        · rw [mupd_ne _ _ _ (by decide)]
          exact g4
        · rw [mupd_ne _ _ _ (by decide)]
          exact g5
        · rw [mupd_at, fup_at]
        · rw [mupd_at, fup_ne _ _ (by decide)]
          exact g7
      · rw [mupd_at, fup_ne _ _ (by decide), e2]
      · rw [mupd_at, fup_ne _ _ (by decide), e4]
    · have bt2 := Decidable.not_not.mp bt
      have s0 : q.2.2.2.2.1 ≠ 0 := fun w => by
        rw [w] at bt2
        exact jbit0 _ bt2
      rw [if_pos ⟨s0, bt2⟩] at eO
      rw [if_pos (by omega)] at eR
      refine br_f bt (cN (T_fail (d + 2) A1 4) (fun A2 p2 => ?_))
      rcases p2.2.2.2.2.2 with ⟨u, _⟩ | ⟨_, u1, u2⟩
      · exact absurd e2 u
      · exact dead 4 _ A2 (by decide) (by rw [eR]; exact eO) (by rw [eR]) u1 (by rw [u2, e6]) (LFr_trans (LFr_t p2.1) (LFr_t f))
  · rw [if_pos k1] at eO
    rw [if_pos (by omega)] at eR
    refine ⟨fun _ => dead (nuK b L 0 5 n) _ A1 k1 (by rw [eR]; exact eO) (by rw [eR]) e2 e3 (LFr_t f), fun _ => cN (T_fail (d + 2) A1 4) (fun A2 p2 => ?_)⟩
    rcases p2.2.2.2.2.2 with ⟨_, u1, u2⟩ | ⟨u, _⟩
    · exact dead (nuK b L 0 5 n) _ A2 k1 (by rw [eR]; exact eO) (by rw [eR]) (by rw [u1, e2]) (by rw [u2, e3]) (LFr_trans (LFr_t p2.1) (LFr_t f))
    · rw [e2] at u
      exact absurd u k1
