/-! PURE PROOFS 73: threads and laws, the class -/
theorem LFr_9 {A' A : mMem} (h : LFr A' A) {i v : Int} (h1 : i ≠ 1) : LFr (mupd A' 35 i v) A := LFr_trans ⟨fun k _ w => mupd_ne _ _ _ w, by rw [mupd_at, fup_ne _ _ (Ne.symm h1)]⟩ h
theorem T_thread (d : Nat) {A : mMem} {b : Int → Int} {L n : Int} {q : Sig} (tp : TpL A b L) (hn : 0 ≤ n ∧ n ≤ L) (h : TrT A q) (h2 : A 35 2 = 0) (h4 : A 35 4 = n) : mN3 (d + 4) 40 [vr 35, vr 9] A (fun A' => LnL A A' (thP b L n q)) := by
  have er := (tE_rng (b := b) hn).2.1
  have sr := (tE_rng (b := b) hn).1
  refine mN3_i ⟨by decide, Nat.le_of_ble_eq_true rfl⟩ (fun K hK => q_T_readThread_0 hK A (cI (T_num d tp hn h2 h4) (fun v A1 p => ?_)))
  obtain ⟨f, e6, p⟩ := p
  have eO : otK b L 1 3 q.2.2.2.2.2 n = if nuK b L 1 3 n ≠ 0 then nuK b L 1 3 n else if q.2.2.2.2.2 ≠ 0 ∧ jand (jshr q.2.2.2.2.2 (tV b L n)) 1 = 1 then 4 else 0 := rfl
  have eR : thP b L n q = if otK b L 1 3 q.2.2.2.2.2 n ≠ 0 then (otK b L 1 3 q.2.2.2.2.2 n, tS b L n, n, q) else if nuK b L 0 99 (tE b L n) ≠ 0 then (nuK b L 0 99 (tE b L n), tS b L (tE b L n), n, q) else if stK b L (tE b L (tE b L n)) ≠ 0 then (stK b L (tE b L (tE b L n)), tS b L (tE b L (tE b L n)), n, q) else (0, 0, tE b L (tE b L (tE b L n)), (q.1, fup q.2.1 (tV b L n) (tV b L (tE b L n)), q.2.2.1, q.2.2.2.1, q.2.2.2.2.1, jor q.2.2.2.2.2 (jshl 1 (tV b L n)))) := rfl
  generalize thP b L n q = R at *
  have h1 := TrT_t h f
  have e8 : A1 35 9 = q.2.2.2.2.2 := h1.2.2.2.2.2.2.2
  have u9 : ∀ (A2 : mMem) (x : Int) (i : Int), i ≠ 9 → mupd A2 35 9 x 35 i = A2 35 i := fun A2 x i w => by rw [mupd_at, fup_ne _ _ w]
  have dead : ∀ (k x : Int) (A2 : mMem), k ≠ 0 → 1 ≤ x → x ≤ 3 → R.1 = k → R.2.1 = tS b L n → A2 35 2 = k → A2 35 3 = tS b L n → LFr A2 A → K 24 [(0, vr 35), (1, vr 9), (2, vi x)] [] (S0, A2) := by
    intro k x A2 k0 x1 x3 r1 r2 a2 a3 lf
    refine q_T_readThread_24 hK x A2 ⟨_, _, T_num0 d (by rw [u9 _ _ 2 (by decide), a2]; exact k0), mIn_i (by omega) (by omega) ⟨_, T_stop0 d (by rw [mupd_ne _ _ _ (by decide), u9 _ _ 2 (by decide), a2]; exact k0), rN_i ⟨?_, Or.inr ⟨by rw [r1]; exact k0, ?_, ?_⟩⟩⟩⟩
    · refine LFr_trans ⟨fun k w1 w2 => mupd_ne _ _ _ (by omega), by rw [mupd_ne _ _ _ (by decide)]⟩ (LFr_9 lf (by decide))
    · rw [mupd_ne _ _ _ (by decide), u9 _ _ 2 (by decide), a2, r1]
    · rw [mupd_ne _ _ _ (by decide), u9 _ _ 3 (by decide), a3, r2]
  rw [e8]
  rcases p with ⟨k0, ev, vb, e2, e3, e4⟩ | ⟨k1, ev, e2, e3⟩
  · rw [if_neg (fun w => w k0)] at eO
    rw [ev]
    rw [ev] at vb
    by_cases bt : jand (jshr q.2.2.2.2.2 (tV b L n)) 1 ≠ 1
    · rw [if_neg (fun w => bt w.2)] at eO
      rw [if_neg (fun w => w eO)] at eR
      refine br_t bt (q_T_readThread_24 hK _ A1 ?_)
      rw [e8]
      generalize tV b L n = y at *
      generalize jor q.2.2.2.2.2 (jshl 1 y) = s9 at *
      have lf1 : LFr (mupd A1 35 9 s9) A := LFr_9 (LFr_t f) (by decide)
      have mr := tE_rng (b := b) (L := L) (n := tE b L n) ⟨by omega, er.2⟩
      refine cI (T_num d (TpL_l tp lf1) (n := tE b L n) ⟨by omega, er.2⟩ (by rw [u9 _ _ 2 (by decide), e2]) (by rw [u9 _ _ 4 (by decide), e4])) (fun v2 A2 p2 => ?_)
      obtain ⟨f2, g6, p2⟩ := p2
      have lf2 := LFr_trans (LFr_t f2) lf1
      have lf3 : LFr (mupd A2 11 y v2) A := LFr_trans ⟨fun k w1 w2 => mupd_ne _ _ _ (by omega), by rw [mupd_ne _ _ _ (by decide)]⟩ lf2
      refine mIn_i (by omega) (by omega) ?_
      have u11 : ∀ i : Int, mupd A2 11 y v2 35 i = A2 35 i := fun i => by rw [mupd_ne _ _ _ (by decide)]
      rcases p2 with ⟨k2, ev2, vb2, g2, g3, g4⟩ | ⟨k2, ev2, g2, g3⟩
      · rw [if_neg (fun w => w k2)] at eR
        refine cN (T_stop d (TpL_l tp lf3) (n := tE b L (tE b L n)) ⟨by omega, mr.2.1.2⟩ (by rw [u11, g2]) (by rw [u11, g4])) (fun A3 p3 => ?_)
        obtain ⟨f3, p3⟩ := p3
        have lf4 := LFr_trans (LFr_t f3) lf3
        rcases p3 with ⟨k3, c2, c3, c4⟩ | ⟨k3, c2, c3⟩
        · rw [if_neg (fun w => w k3)] at eR
          refine rN_i ⟨lf4, Or.inl ⟨by rw [eR], c2, by rw [eR]; exact c4, ?_⟩⟩
          rw [eR]
          refine TrT_t ?_ f3
          have h3 : TrT A2 (q.1, q.2.1, q.2.2.1, q.2.2.2.1, q.2.2.2.2.1, s9) := by
            refine TrT_t ?_ f2
            obtain ⟨c, g1, g2, g3, g4, g5, g6, g7⟩ := h1
            refine ⟨Cht_eq c (fun k a b => mupd_ne _ _ _ (by omega)), ?_, ?_, ?_, ?_, ?_, ?_, ?_⟩
            · rw [mupd_ne _ _ _ (by decide)]
              exact g1
            · rw [mupd_ne _ _ _ (by decide)]
              exact g2
            · rw [mupd_ne _ _ _ (by decide)]
              exact g3
            · rw [mupd_ne _ _ _ (by decide)]
              exact g4
            · rw [mupd_ne _ _ _ (by decide)]
              exact g5
            · rw [mupd_at, fup_ne _ _ (by decide)]
              exact g6
            · rw [mupd_at, fup_at]
          rw [← ev2]
          obtain ⟨c, w1, w2, w3, w4, w5, w6, w7⟩ := h3
          refine ⟨?_, ?_, ?_, ?_, ?_, ?_, ?_, ?_⟩
          · obtain ⟨t0, l0, l1, p0, p1, sp⟩ := c
            refine ⟨Tal_of t0 (fun i _ _ => by rw [mupd_ne _ _ _ (by decide)]) (fun i _ _ => by rw [mupd_ne _ _ _ (by decide)]) (fun i _ _ => by rw [mupd_ne _ _ _ (by decide)]), ?_, ?_, ?_, ?_, ?_⟩
            · rw [mupd_ne _ _ _ (by decide)]
              exact l0
            · rw [mupd_ne _ _ _ (by decide), mupd_ne _ _ _ (by decide)]
              exact l1
            · rw [mupd_ne _ _ _ (by decide)]
              exact p0
            · rw [mupd_ne _ _ _ (by decide), mupd_ne _ _ _ (by decide), mupd_ne _ _ _ (by decide)]
              exact p1
            · intro i i1 i3
              show 0 ≤ mupd A2 11 y v2 11 i ∧ mupd A2 11 y v2 11 i ≤ 99
              rw [mupd_at]
              by_cases z : i = y
              · rw [z, fup_at]
                exact vb2
              · rw [fup_ne _ _ z]
                exact sp i i1 i3
          · rw [mupd_ne _ _ _ (by decide)]
            exact w1
          · intro i i1 i3
            rw [mupd_at]
            show fup (A2 11) y v2 i = fup q.2.1 y v2 i
            unfold fup
            rw [w2 i i1 i3]
          · rw [mupd_ne _ _ _ (by decide)]
            exact w3
          · rw [mupd_ne _ _ _ (by decide)]
            exact w4
          · rw [mupd_ne _ _ _ (by decide)]
            exact w5
          · rw [mupd_ne _ _ _ (by decide)]
            exact w6
          · rw [mupd_ne _ _ _ (by decide)]
            exact w7
        · rw [if_pos k3] at eR
          exact rN_i ⟨lf4, Or.inr ⟨by rw [eR]; exact k3, by rw [eR, c2], by rw [eR, c3]⟩⟩
      · rw [if_pos k2] at eR
        exact ⟨_, T_stop0 d (by rw [u11, g2]; exact k2), rN_i ⟨lf3, Or.inr ⟨by rw [eR]; exact k2, by rw [eR, u11, g2], by rw [eR, u11, g3]⟩⟩⟩
    · have bt2 := Decidable.not_not.mp bt
      have s0 : q.2.2.2.2.2 ≠ 0 := fun w => by
        rw [w] at bt2
        exact jbit0 _ bt2
      rw [if_pos ⟨s0, bt2⟩] at eO
      rw [if_pos (by omega)] at eR
      refine br_f bt (cN (T_fail (d + 2) A1 4) (fun A2 p2 => ?_))
      rcases p2.2.2.2.2.2 with ⟨u, _⟩ | ⟨_, u1, u2⟩
      · exact absurd e2 u
      · exact dead 4 _ A2 (by decide) (by omega) (by omega) (by rw [eR]; exact eO) (by rw [eR]) u1 (by rw [u2, e6]) (LFr_trans (LFr_t p2.1) (LFr_t f))
  · rw [if_pos k1] at eO
    rw [if_pos (by omega)] at eR
    refine ⟨fun _ => dead (nuK b L 1 3 n) _ A1 k1 (by omega) (by omega) (by rw [eR]; exact eO) (by rw [eR]) e2 e3 (LFr_t f), fun _ => cN (T_fail (d + 2) A1 4) (fun A2 p2 => ?_)⟩
    rcases p2.2.2.2.2.2 with ⟨_, u1, u2⟩ | ⟨u, _⟩
    · exact dead (nuK b L 1 3 n) _ A2 k1 (by omega) (by omega) (by rw [eR]; exact eO) (by rw [eR]) (by rw [u1, e2]) (by rw [u2, e3]) (LFr_trans (LFr_t p2.1) (LFr_t f))
    · rw [e2] at u
      exact absurd u k1
theorem T_law (d : Nat) {A : mMem} {b : Int → Int} {L n p kd : Int} {q : Sig} (tp : TpL A b L) (hn : 0 ≤ n ∧ n ≤ L) (h : TrT A q) (h2 : A 35 2 = 0) (h4 : A 35 4 = n) (h6 : A 35 6 = p) (hk : 0 ≤ kd ∧ kd ≤ 3) : mN3 (d + 4) 41 [vr 35, vr 9, vi kd] A (fun A' => LnL A A' (laP b L kd p n q)) := by
  have er := tE_rng (b := b) hn
  have er2 := tE_rng (b := b) (L := L) (n := tE b L n) ⟨by omega, er.2.1.2⟩
  have er3 := tE_rng (b := b) (L := L) (n := tE b L (tE b L n)) ⟨by omega, er2.2.1.2⟩
  have eR : laP b L kd p n q = if 5 ≤ q.2.2.2.1 then (5, p, n, q) else if nuK b L 1 3 n ≠ 0 then (nuK b L 1 3 n, tS b L n, n, q) else if nuK b L 1 3 (tE b L n) ≠ 0 then (nuK b L 1 3 (tE b L n), tS b L (tE b L n), n, q) else if nuK b L 1 9 (tE b L (tE b L n)) ≠ 0 then (nuK b L 1 9 (tE b L (tE b L n)), tS b L (tE b L (tE b L n)), n, q) else if stK b L (tE b L (tE b L (tE b L n))) ≠ 0 then (stK b L (tE b L (tE b L (tE b L n))), tS b L (tE b L (tE b L (tE b L n))), n, q) else (0, 0, tE b L (tE b L (tE b L (tE b L n))), (q.1, q.2.1, laW q.2.2.1 q.2.2.2.1 kd (tV b L n) (tV b L (tE b L n)) (tV b L (tE b L (tE b L n))), q.2.2.2.1 + 1, q.2.2.2.2.1, q.2.2.2.2.2)) := rfl
  generalize laP b L kd p n q = R at *
  have h5 : A 9 5 = q.2.2.2.1 := h.2.2.2.2.1
  refine mN3_i ⟨by decide, Nat.le_of_ble_eq_true rfl⟩ (fun K hK => q_T_readLaw_0 hK kd A ⟨fun w => ?_, fun w => cN (T_fail (d + 2) A 5) (fun A2 p2 => ?_)⟩)
  · rw [if_neg (by omega)] at eR
    refine cI (T_num d tp hn h2 h4) (fun v1 A1 p1 => ?_)
    obtain ⟨f1, _, p1⟩ := p1
    rcases p1 with ⟨k1, ev1, vb1, e2, e3, e4⟩ | ⟨k1, ev1, e2, e3⟩
    · rw [if_neg (fun w => w k1)] at eR
      refine cI (T_num d (TpL_fr tp f1) (n := tE b L n) ⟨by omega, er.2.1.2⟩ e2 e4) (fun v2 A2 p2 => ?_)
      obtain ⟨f2, _, p2⟩ := p2
      have f12 := TFr_trans f2 f1
      rcases p2 with ⟨k2, ev2, vb2, g2, g3, g4⟩ | ⟨k2, ev2, g2, g3⟩
      · rw [if_neg (fun w => w k2)] at eR
        refine cI (T_num d (TpL_fr tp f12) (n := tE b L (tE b L n)) ⟨by omega, er2.2.1.2⟩ g2 g4) (fun v3 A3 p3 => ?_)
        obtain ⟨f3, _, p3⟩ := p3
        have f13 := TFr_trans f3 f12
        rcases p3 with ⟨k3, ev3, vb3, i2, i3, i4⟩ | ⟨k3, ev3, i2, i3⟩
        · rw [if_neg (fun w => w k3)] at eR
          refine cN (T_stop d (TpL_fr tp f13) (n := tE b L (tE b L (tE b L n))) ⟨by omega, er3.2.1.2⟩ i2 i4) (fun A4 p4 => ?_)
          obtain ⟨f4, p4⟩ := p4
          have f14 := TFr_trans f4 f13
          rcases p4 with ⟨k4, c2, c3, c4⟩ | ⟨k4, c2, c3⟩
          · rw [if_neg (fun w => w k4)] at eR
            have h1 := TrT_t h f14
            have hL : 0 ≤ A4 9 5 ∧ A4 9 5 < 5 := ⟨h1.1.2.1.1, by rw [f14.1 9 (by decide)]; exact w⟩
            have a5 : A4 9 5 = q.2.2.2.1 := h1.2.2.2.2.1
            refine br_f (fun w => w c2) ⟨_, R_addLaw (d + 2) A4 9 (Or.inr rfl) kd v1 v2 v3 hL, rN_i ⟨?_, Or.inl ⟨by rw [eR], ?_, ?_, ?_⟩⟩⟩
            · refine LFr_trans ⟨fun k w1 w2 => alM_ne _ _ _ _ _ _ (by omega) (by omega), by rw [alM_ne _ _ _ _ _ _ (by decide) (by decide)]⟩ (LFr_t f14)
            · rw [alM_ne _ _ _ _ _ _ (by decide) (by decide)]
              exact c2
            · rw [alM_ne _ _ _ _ _ _ (by decide) (by decide), eR]
              exact c4
            · rw [eR, ← ev1, ← ev2, ← ev3]
              have ac := alM_cht h1.1 hL.2 hk vb1 vb2 vb3
              have a0 : alM A4 9 kd v1 v2 v3 9 = fup (A4 9) 5 (A4 9 5 + 1) := alM_0 A4 9 kd v1 v2 v3
              have a3 : alM A4 9 kd v1 v2 v3 12 = fup (fup (fup (fup (A4 12) (4 * A4 9 5) kd) (4 * A4 9 5 + 1) v1) (4 * A4 9 5 + 2) v2) (4 * A4 9 5 + 3) v3 := alM_3 A4 9 kd v1 v2 v3
              obtain ⟨_, w1, w2, w3, w4, w5, w6, w7⟩ := h1
              refine ⟨ac, ?_, ?_, ?_, ?_, ?_, ?_, ?_⟩
              · rw [alM_ne _ _ _ _ _ _ (by decide) (by decide)]
                exact w1
              · rw [alM_ne _ _ _ _ _ _ (by decide) (by decide)]
                exact w2
              · intro i i0 i1
                have i1 : i < 4 * (q.2.2.2.1 + 1) := i1
                rw [a3, a5]
                show fup (fup (fup (fup (A4 12) (4 * q.2.2.2.1) kd) (4 * q.2.2.2.1 + 1) v1) (4 * q.2.2.2.1 + 2) v2) (4 * q.2.2.2.1 + 3) v3 i = fup (fup (fup (fup q.2.2.1 (4 * q.2.2.2.1) kd) (4 * q.2.2.2.1 + 1) v1) (4 * q.2.2.2.1 + 2) v2) (4 * q.2.2.2.1 + 3) v3 i
                by_cases z : i < 4 * q.2.2.2.1
                · unfold fup
                  rw [w3 i i0 z]
                · unfold fup
                  by_cases z3 : i = 4 * q.2.2.2.1 + 3
                  · rw [if_pos z3, if_pos z3]
                  · rw [if_neg z3, if_neg z3]
                    by_cases z2 : i = 4 * q.2.2.2.1 + 2
                    · rw [if_pos z2, if_pos z2]
                    · rw [if_neg z2, if_neg z2]
                      by_cases z1 : i = 4 * q.2.2.2.1 + 1
                      · rw [if_pos z1, if_pos z1]
                      · rw [if_neg z1, if_neg z1, if_pos (by omega), if_pos (by omega)]
              · rw [a0, fup_at, a5]
              · rw [a0, fup_ne _ _ (by decide)]
                exact w5
              · rw [alM_ne _ _ _ _ _ _ (by decide) (by decide)]
                exact w6
              · rw [alM_ne _ _ _ _ _ _ (by decide) (by decide)]
                exact w7
          · rw [if_pos k4] at eR
            exact br_t (by rw [c2]; exact k4) (rN_i ⟨LFr_t f14, Or.inr ⟨by rw [eR]; exact k4, by rw [eR, c2], by rw [eR, c3]⟩⟩)
        · rw [if_pos k3] at eR
          have z : A3 35 2 ≠ 0 := by rw [i2]; exact k3
          exact ⟨_, T_stop0 d z, br_t z (rN_i ⟨LFr_t f13, Or.inr ⟨by rw [eR]; exact k3, by rw [eR, i2], by rw [eR, i3]⟩⟩)⟩
      · rw [if_pos k2] at eR
        have z : A2 35 2 ≠ 0 := by rw [g2]; exact k2
        exact ⟨_, _, T_num0 d z, _, T_stop0 d z, br_t z (rN_i ⟨LFr_t f12, Or.inr ⟨by rw [eR]; exact k2, by rw [eR, g2], by rw [eR, g3]⟩⟩)⟩
    · rw [if_pos k1] at eR
      have z : A1 35 2 ≠ 0 := by rw [e2]; exact k1
      exact ⟨_, _, T_num0 d z, _, _, T_num0 d z, _, T_stop0 d z, br_t z (rN_i ⟨LFr_t f1, Or.inr ⟨by rw [eR]; exact k1, by rw [eR, e2], by rw [eR, e3]⟩⟩)⟩
  · rw [if_pos (by omega)] at eR
    rcases p2.2.2.2.2.2 with ⟨u, _⟩ | ⟨_, u1, u2⟩
    · exact absurd h2 u
    · exact rN_i ⟨LFr_t p2.1, Or.inr ⟨by rw [eR]; show (5 : Int) ≠ 0; decide, by rw [eR, u1], by rw [eR, u2, h6]⟩⟩
