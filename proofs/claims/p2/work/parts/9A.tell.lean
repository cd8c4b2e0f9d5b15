/-! PURE PROOFS 75: all lines, the class -/
noncomputable def teP (b : Int → Int) (L : Int) : Nat → Int → Int → Sig → Int × Int × Int × Sig
  | 0, _, c, q => (0, 0, c, q)
  | j + 1, n, c, q => if tB b L n ≠ 0 then (1, tS b L n, c, q) else if tT b L n = 0 then (0, 0, c, q) else if (liP b L n q).1 ≠ 0 then ((liP b L n q).1, (liP b L n q).2.1, c, q) else teP b L j (liP b L n q).2.2.1 (c + 1) (liP b L n q).2.2.2
theorem teP_s (b : Int → Int) (L : Int) (j : Nat) (n c : Int) (q : Sig) : teP b L (j + 1) n c q = if tB b L n ≠ 0 then (1, tS b L n, c, q) else if tT b L n = 0 then (0, 0, c, q) else if (liP b L n q).1 ≠ 0 then ((liP b L n q).1, (liP b L n q).2.1, c, q) else teP b L j (liP b L n q).2.2.1 (c + 1) (liP b L n q).2.2.2 := rfl
def q0 : Sig := (fun _ => 0, fun _ => 20, fun _ => 0, 0, 0, 0)
theorem mc_1 (M : mMem) (i : Int) (h0 : 0 ≤ i) (h1 : i < 36) : mclear M 9 10 i = 0 := by
  unfold mclear
  rw [mupd_ne _ _ _ (by decide), mupd_ne _ _ _ (by decide), mfill_ne _ _ _ (by decide), mupd_ne _ _ _ (by decide), mupd_ne _ _ _ (by decide), mfill_ne _ _ _ (by decide), mfill_ne _ _ _ (by decide)]
  exact mfill_at _ h0 (by omega)
theorem mc_2 (M : mMem) (i : Int) (h0 : 0 ≤ i) (h1 : i < 4) : mclear M 9 11 i = 20 := by
  unfold mclear
  rw [mupd_ne _ _ _ (by decide), mupd_ne _ _ _ (by decide)]
  exact mfill_at _ h0 (by omega)
theorem mc_6 (M : mMem) (i : Int) (h0 : 0 ≤ i) (h1 : i < 25) : mclear M 9 15 i = if i = 0 then 30 else 0 := by
  unfold mclear
  rw [mupd_ne _ _ _ (by decide), mupd_ne _ _ _ (by decide), mfill_ne _ _ _ (by decide), mupd_ne _ _ _ (by decide)]
  refine (congrFun (mupd_at _ 15 0 30) i).trans ?_
  unfold fup
  split
  · rfl
  · rw [mfill_ne _ _ _ (by decide)]
    exact mfill_at _ h0 (by omega)
theorem mc_7 (M : mMem) (i : Int) (h0 : 0 ≤ i) (h1 : i < 25) : mclear M 9 16 i = if i = 0 then 30 else 0 := by
  unfold mclear
  rw [mupd_ne _ _ _ (by decide), mupd_ne _ _ _ (by decide), mfill_ne _ _ _ (by decide)]
  refine (congrFun (mupd_at _ 16 0 30) i).trans ?_
  unfold fup
  split
  · rfl
  · rw [mupd_ne _ _ _ (by decide)]
    exact mfill_at _ h0 (by omega)
theorem mc_n (M : mMem) : mclear M 9 9 5 = 0 ∧ mclear M 9 9 6 = 0 := by
  unfold mclear
  refine ⟨?_, ?_⟩
  · refine (congrFun (mupd_at _ 9 _ 0) 5).trans ?_
    refine (fup_ne _ _ (by decide)).trans ?_
    refine (congrFun (mupd_at _ 9 _ 0) 5).trans ?_
    exact fup_at _ _ _
  · refine (congrFun (mupd_at _ 9 _ 0) 6).trans ?_
    exact fup_at _ _ _
theorem mc_cht (M : mMem) : Cht (mclear M 9) 9 := by
  have e1 := mc_1 M
  have e2 := mc_2 M
  have e6 := mc_6 M
  have e7 := mc_7 M
  have en := mc_n M
  generalize mclear M 9 = N at *
  have z2 : ∀ a c : Int, 0 ≤ a ∧ a ≤ 4 → 0 ≤ c ∧ c ≤ 4 → cB (N 10) a c = (if 5 * a + c = 0 then 30 else 0) ∧ cA (N 10) a c = (if 5 * a + c = 0 then 30 else 0) := by
    intro a c ha hc
    rw [cB_cong (g := fun _ => 0) e1, cA_cong (g := fun _ => 0) e1]
    by_cases q : 5 * a + c = 0
    · rw [if_pos q, show a = 0 by omega, show c = 0 by omega]
      exact ⟨by decide +kernel, by decide +kernel⟩
    · rw [if_neg q]
      refine ⟨?_, ?_⟩
      · exact (sm_cong (h := fun _ => 0) (fun k _ => b2_f (fun w => q (by have u : (0 : Int) = a := w.1; have v : (0 : Int) = c := w.2; omega)))).trans (sm_0 30)
      · exact (sm_cong (h := fun _ => 0) (fun k _ => b2_f (fun w => q (by have u : (0 : Int) = a := w.2.1; have v : (0 : Int) = c := w.2.2; omega)))).trans (sm_0 36)
  refine ⟨⟨fun i a b => ?_, fun a c ha hc => ?_, fun a c ha hc => ?_⟩, ?_, fun l a b => ?_, ?_, fun i a b => ?_, fun c a b => ?_⟩
  · have e : N (9 + 1) i = 0 := e1 i a b
    omega
  · have e : N (9 + 6) (5 * a + c) = if 5 * a + c = 0 then 30 else 0 := e6 _ (by omega) (by omega)
    rw [e]
    exact (z2 a c ha hc).1.symm
  · have e : N (9 + 7) (5 * a + c) = if 5 * a + c = 0 then 30 else 0 := e7 _ (by omega) (by omega)
    rw [e]
    exact (z2 a c ha hc).2.symm
  · omega
  · exact absurd b (by omega)
  · omega
  · exact absurd b (by omega)
  · have e : N (9 + 2) c = 20 := e2 c (by omega) (by omega)
    omega
theorem T_tell (d : Nat) {A : mMem} {b : Int → Int} {L : Int} (tp : TpL A b L) : mI3 (d + 6) 31 [vr 35, vr 9] A (fun v A' => LFr A' A ∧ (((teP b L 162 0 0 q0).1 = 0 ∧ v = (teP b L 162 0 0 q0).2.2.1 ∧ A' 35 2 = 0 ∧ TrT A' (teP b L 162 0 0 q0).2.2.2) ∨ ((teP b L 162 0 0 q0).1 ≠ 0 ∧ A' 35 2 = (teP b L 162 0 0 q0).1 ∧ A' 35 3 = (teP b L 162 0 0 q0).2.1))) := by
  generalize hr : teP b L 162 0 0 q0 = r
  refine mI3_i ⟨by decide, Nat.le_of_ble_eq_true rfl⟩ (fun K hK => q_T_tell_0 hK A ⟨_, R_clear (d + 3) S0 A 9 isCh9, ?_⟩)
  have loop : ∀ (j : Nat) (n c : Int) (q : Sig), L + 1 ≤ n + j → 0 ≤ c → c ≤ n → n ≤ L → teP b L j n c q = r → ∀ A2 : mMem, LFr A2 A → TrT A2 q → A2 35 2 = 0 → A2 35 4 = n → K 33 [(0, vr 35), (1, vr 9), (2, vi c), (3, vi c)] [] (S0, A2) := by
    intro j
    induction j with
    | zero =>
      intro n c q hj c0 cn nl
      omega
    | succ j ih =>
      intro n c q hj c0 cn nl he A2 lf tt a2 a4
      have tp2 := TpL_l tp lf
      have tl := tp.2.2.1
      rw [teP_s] at he
      have tk := T_token (d + 3) (A := A2) (n := n) (by rw [tp2.2.1]; omega) (by rw [tp2.2.1]; exact tp2.2.2.1.2) (by rw [tp2.1, tp2.2.1]; exact tp2.2.2.2) a2 a4
      refine q_T_tell_33 hK c c A2 (br_f (by omega) (cN tk (fun A3 p3 => ?_)))
      unfold TkL at p3
      rw [tp2.1, tp2.2.1] at p3
      obtain ⟨f3, c6, p3⟩ := p3
      have lf3 := LFr_trans (LFr_t f3) lf
      have tt3 := TrT_t tt f3
      have ew : w32 (c + 1) = c + 1 := w32_s (by omega) (by omega)
      rcases p3 with ⟨b0, c2, c3, c5, c4, c7⟩ | ⟨b1, c2, c3⟩
      · rw [if_neg (fun w => w b0)] at he
        refine br_f (fun w => w c2) ⟨fun w => ?_, fun w => ?_⟩
        · rw [c5] at w
          rw [if_neg w] at he
          refine cN (T_line d (TpL_l tp lf3) (n := n) (by omega) tt3 c2 c4 c5 c6) (fun A4 p4 => ?_)
          obtain ⟨lf4, p4⟩ := p4
          have lf5 := LFr_trans lf4 lf3
          rw [ew]
          rcases p4 with ⟨r1, g2, g4, gt⟩ | ⟨r1, g2, g3⟩
          · rw [if_neg (fun w => w r1)] at he
            have lr := li_rng (b := b) (L := L) (n := n) (q := q) (by omega) w r1
            exact ih _ (c + 1) _ (by omega) (by omega) (by omega) lr.2 he A4 lf5 gt g2 g4
          · rw [if_pos r1] at he
            have z : A4 35 2 ≠ 0 := by rw [g2]; exact r1
            have fin : ∀ v : Int, rI (fun v A' => LFr A' A ∧ ((r.1 = 0 ∧ v = r.2.2.1 ∧ A' 35 2 = 0 ∧ TrT A' r.2.2.2) ∨ (r.1 ≠ 0 ∧ A' 35 2 = r.1 ∧ A' 35 3 = r.2.1))) (some (vi v)) (S0, A4) := fun v => rI_i ⟨lf5, Or.inr ⟨by rw [← he]; exact r1, by rw [← he]; exact g2, by rw [← he]; exact g3⟩⟩
            exact q_T_tell_33 hK (c + 1) (c + 1) A4 ⟨fun _ => fin _, fun _ => ⟨_, T_tok0 (d + 3) z, br_t z (fin _)⟩⟩
        · rw [c5] at w
          rw [if_pos (Decidable.not_not.mp w)] at he
          exact rI_i ⟨lf3, Or.inl ⟨by rw [← he], by rw [← he], c2, by rw [← he]; exact tt3⟩⟩
      · rw [if_pos b1] at he
        exact br_t (by rw [c2]; decide) (rI_i ⟨lf3, Or.inr ⟨by rw [← he]; show (1 : Int) ≠ 0; decide, by rw [← he]; exact c2, by rw [← he]; exact c3⟩⟩)
  have mc := mc_cht A
  have e1 := mc_1 A
  have e2 := mc_2 A
  have en := mc_n A
  have ec : ∀ k : Nat, k < 9 ∨ 17 ≤ k → mclear A 9 k = A k := fun k w => mclear_ne A (by omega)
  generalize mclear A 9 = m1 at mc e1 e2 en ec
  have nk : ∀ k : Nat, k ≠ 35 → mupd (mupd (mupd (mupd (mupd m1 35 2 0) 35 3 0) 35 4 0) 35 8 0) 35 9 0 k = m1 k := fun k w => by rw [mupd_ne _ _ _ w, mupd_ne _ _ _ w, mupd_ne _ _ _ w, mupd_ne _ _ _ w, mupd_ne _ _ _ w]
  have n1 : mupd (mupd (mupd (mupd (mupd m1 35 2 0) 35 3 0) 35 4 0) 35 8 0) 35 9 0 35 1 = A 35 1 := by rw [mupd_at, fup_ne _ _ (by decide), mupd_at, fup_ne _ _ (by decide), mupd_at, fup_ne _ _ (by decide), mupd_at, fup_ne _ _ (by decide), mupd_at, fup_ne _ _ (by decide), ec 35 (by omega)]
  have n2 : mupd (mupd (mupd (mupd (mupd m1 35 2 0) 35 3 0) 35 4 0) 35 8 0) 35 9 0 35 2 = 0 := by rw [mupd_at, fup_ne _ _ (by decide), mupd_at, fup_ne _ _ (by decide), mupd_at, fup_ne _ _ (by decide), mupd_at, fup_ne _ _ (by decide), mupd_at, fup_at]
  have n4 : mupd (mupd (mupd (mupd (mupd m1 35 2 0) 35 3 0) 35 4 0) 35 8 0) 35 9 0 35 4 = 0 := by rw [mupd_at, fup_ne _ _ (by decide), mupd_at, fup_ne _ _ (by decide), mupd_at, fup_at]
  have n8 : mupd (mupd (mupd (mupd (mupd m1 35 2 0) 35 3 0) 35 4 0) 35 8 0) 35 9 0 35 8 = 0 := by rw [mupd_at, fup_ne _ _ (by decide), mupd_at, fup_at]
  have n9 : mupd (mupd (mupd (mupd (mupd m1 35 2 0) 35 3 0) 35 4 0) 35 8 0) 35 9 0 35 9 = 0 := by rw [mupd_at, fup_at]
  generalize mupd (mupd (mupd (mupd (mupd m1 35 2 0) 35 3 0) 35 4 0) 35 8 0) 35 9 0 = N at nk n1 n2 n4 n8 n9
  have tl := tp.2.2.1
  refine loop 162 0 0 q0 (by omega) (by omega) (by omega) tl.1 hr N ⟨fun k a w => (nk k w).trans (ec k a), n1⟩ ⟨Cht_eq mc (fun k a b => nk k (by omega)), ?_, ?_, ?_, ?_, ?_, n8, n9⟩ n2 n4
  · rw [nk 10 (by decide)]
    exact e1
  · rw [nk 11 (by decide)]
    exact fun c a b => e2 c (by omega) (by omega)
  · intro i a w
    exact absurd (show i < 4 * 0 from w) (by omega)
  · rw [nk 9 (by decide)]
    exact en.1
  · rw [nk 9 (by decide)]
    exact en.2
