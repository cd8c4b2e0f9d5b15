/-! PURE PROOFS 74: a line, the class -/
noncomputable def liP (b : Int → Int) (L n : Int) (q : Sig) : Int × Int × Int × Sig := if tT b L n ≠ 1 ∨ nmN b (tS b L n) (tE b L n) 6 0 < 0 then (2, tS b L n, n, q) else if nmN b (tS b L n) (tE b L n) 6 0 = 4 then rwP b L (tE b L n) q else if nmN b (tS b L n) (tE b L n) 6 0 = 5 then thP b L (tE b L n) q else laP b L (nmN b (tS b L n) (tE b L n) 6 0) (tS b L n) (tE b L n) q
theorem wmI_n {b : Int → Int} {s e : Int} {i : Nat} (h : ¬ wmI b s e i = 0) : wm b s e i := Classical.byContradiction (fun w => h (wmI_f w))
theorem wmI_z {b : Int → Int} {s e : Int} {i : Nat} (h : wmI b s e i = 0) : ¬ wm b s e i := fun w => by
  have e := wmI_t w
  omega
theorem T_line (d : Nat) {A : mMem} {b : Int → Int} {L n : Int} {q : Sig} (tp : TpL A b L) (hn : 0 ≤ n ∧ n ≤ L) (h : TrT A q) (h2 : A 35 2 = 0) (h4 : A 35 4 = tE b L n) (h5 : A 35 5 = tT b L n) (h6 : A 35 6 = tS b L n) : mN3 (d + 5) 36 [vr 35, vr 9] A (fun A' => LnL A A' (liP b L n q)) := by
  have er := tE_rng (b := b) hn
  have eR : liP b L n q = if tT b L n ≠ 1 ∨ nmN b (tS b L n) (tE b L n) 6 0 < 0 then (2, tS b L n, n, q) else if nmN b (tS b L n) (tE b L n) 6 0 = 4 then rwP b L (tE b L n) q else if nmN b (tS b L n) (tE b L n) 6 0 = 5 then thP b L (tE b L n) q else laP b L (nmN b (tS b L n) (tE b L n) 6 0) (tS b L n) (tE b L n) q := rfl
  generalize liP b L n q = R at *
  have hs : 0 ≤ tS b L n ∧ tS b L n ≤ tE b L n ∧ tE b L n ≤ L := by omega
  have hm : 0 ≤ tE b L n ∧ tE b L n ≤ L := by omega
  have fl : ∀ (A2 : mMem), (R = (2, tS b L n, n, q)) → TFr A2 A → A2 35 2 = 2 → A2 35 3 = tS b L n → rN (fun A' => LnL A A' R) none (S0, A2) := by
    intro A2 w f a2 a3
    refine rN_i ⟨LFr_t f, Or.inr ⟨by rw [w]; show (2 : Int) ≠ 0; decide, by rw [w, a2], by rw [w, a3]⟩⟩
  refine mN3_i ⟨by decide, Nat.le_of_ble_eq_true rfl⟩ (fun K hK => q_T_readLine_0 hK A ⟨fun w => ?_, fun w => cN (T_fail (d + 3) A 2) (fun A2 p2 => ?_)⟩)
  · have t1 : tT b L n = 1 := by omega
    have nm : ∀ i : Nat, i < 6 → mR3 (d + 4) 37 [vr 35, vs (i + 1)] (S0, A) (some (vi (wmI b (tS b L n) (tE b L n) i)), (S0, A)) := fun i hi => T_name (d + 3) tp hi h4 h6 hs
    have law : ∀ (i k : Nat), i < 6 → k < 4 → mp k = i → wm b (tS b L n) (tE b L n) i → mN3 (d + 4) 41 [vr 35, vr 9, vi (k : Int)] A (fun A' => LnL A A' R) := by
      intro i k hi hk hp hw
      have e := nmN_at (n := k) hi (by omega) hp hw
      rw [e, if_neg (by omega), if_neg (by omega), if_neg (by omega)] at eR
      rw [eR]
      exact T_law d tp hm h h2 h4 h6 (by omega)
    refine ⟨_, _, nm 0 (by decide), ⟨fun w0 => ?_, fun w0 => ?_⟩⟩
    · refine ⟨_, _, nm 1 (by decide), ⟨fun w1 => ?_, fun w1 => ?_⟩⟩
      · refine ⟨_, _, nm 2 (by decide), ⟨fun w2 => ?_, fun w2 => ?_⟩⟩
        · refine ⟨_, _, nm 3 (by decide), ⟨fun w3 => ?_, fun w3 => ?_⟩⟩
          · refine ⟨_, _, nm 4 (by decide), ⟨fun w4 => ?_, fun w4 => ?_⟩⟩
            · refine ⟨_, _, nm 5 (by decide), ⟨fun w5 => ?_, fun w5 => ?_⟩⟩
              · have e := nmN_no (b := b) (s := tS b L n) (e := tE b L n) (fun i hi => match i, hi with
                  | 0, _ => wmI_z w0
                  | 1, _ => wmI_z w1
                  | 2, _ => wmI_z w2
                  | 3, _ => wmI_z w3
                  | 4, _ => wmI_z w4
                  | 5, _ => wmI_z w5)
                rw [if_pos (by omega)] at eR
                refine cN (T_fail (d + 3) A 2) (fun A2 p2 => ?_)
                rcases p2.2.2.2.2.2 with ⟨u, _⟩ | ⟨_, u1, u2⟩
                · exact absurd h2 u
                · exact fl A2 eR p2.1 u1 (by rw [u2, h6])
              · exact cN (law 5 3 (by decide) (by decide) rfl (wmI_n w5)) (fun A2 p2 => rN_i p2)
            · exact cN (law 4 2 (by decide) (by decide) rfl (wmI_n w4)) (fun A2 p2 => rN_i p2)
          · exact cN (law 3 1 (by decide) (by decide) rfl (wmI_n w3)) (fun A2 p2 => rN_i p2)
        · exact cN (law 2 0 (by decide) (by decide) rfl (wmI_n w2)) (fun A2 p2 => rN_i p2)
      · have e := nmN_at (n := 5) (i := 1) (by decide) (by decide) rfl (wmI_n w1)
        have e : nmN b (tS b L n) (tE b L n) 6 0 = 5 := e
        rw [e, if_neg (by omega), if_neg (by omega), if_pos rfl] at eR
        rw [eR]
        exact cN (T_thread d tp hm h h2 h4) (fun A2 p2 => rN_i p2)
    · have e := nmN_at (n := 4) (i := 0) (by decide) (by decide) rfl (wmI_n w0)
      have e : nmN b (tS b L n) (tE b L n) 6 0 = 4 := e
      rw [e, if_neg (by omega), if_pos rfl] at eR
      rw [eR]
      exact cN (T_row d tp hm h h2 h4) (fun A2 p2 => rN_i p2)
  · rw [if_pos (by omega)] at eR
    rcases p2.2.2.2.2.2 with ⟨u, _⟩ | ⟨_, u1, u2⟩
    · exact absurd h2 u
    · exact fl A2 eR p2.1 u1 (by rw [u2, h6])
theorem ro_rng (b : Int → Int) (L y : Int) : ∀ (j : Nat) (x m : Int) (g : Int → Int), 0 ≤ m → m ≤ L → (roP b L y j x m g).1 = 0 → m ≤ (roP b L y j x m g).2.2.1 ∧ (roP b L y j x m g).2.2.1 ≤ L := by
  intro j
  induction j with
  | zero =>
    intro x m g m0 m1 _
    exact ⟨Int.le_refl m, m1⟩
  | succ j ih =>
    intro x m g m0 m1
    have er := tE_rng (b := b) (L := L) (n := m) ⟨m0, m1⟩
    rw [roP_s]
    by_cases c1 : tB b L m ≠ 0
    · rw [if_pos c1]
      exact fun w => absurd w (show (1 : Int) ≠ 0 by decide)
    · rw [if_neg c1]
      by_cases c2 : tT b L m = 3
      · rw [if_pos c2]
        intro _
        show m ≤ tE b L m ∧ tE b L m ≤ L
        omega
      · rw [if_neg c2]
        by_cases c3 : tT b L m ≠ 2
        · rw [if_pos c3]
          exact fun w => absurd w (show (2 : Int) ≠ 0 by decide)
        · rw [if_neg c3]
          by_cases c4 : 6 ≤ x
          · rw [if_pos c4]
            exact fun w => absurd w (show (5 : Int) ≠ 0 by decide)
          · rw [if_neg c4]
            by_cases c5 : 4 < tV b L m
            · rw [if_pos c5]
              exact fun w => absurd w (show (3 : Int) ≠ 0 by decide)
            · rw [if_neg c5]
              intro w
              have r := ih (x + 1) (tE b L m) _ (by omega) er.2.1.2 w
              omega
theorem li_rng {b : Int → Int} {L n : Int} {q : Sig} (hn : 0 ≤ n ∧ n ≤ L) (ht : tT b L n ≠ 0) (h : (liP b L n q).1 = 0) : n < (liP b L n q).2.2.1 ∧ (liP b L n q).2.2.1 ≤ L := by
  have er := tE_rng (b := b) hn
  have e1 := er.2.2 ht
  have er2 := tE_rng (b := b) (L := L) (n := tE b L n) ⟨by omega, er.2.1.2⟩
  have er3 := tE_rng (b := b) (L := L) (n := tE b L (tE b L n)) ⟨by omega, er2.2.1.2⟩
  have er4 := tE_rng (b := b) (L := L) (n := tE b L (tE b L (tE b L n))) ⟨by omega, er3.2.1.2⟩
  have er5 := tE_rng (b := b) (L := L) (n := tE b L (tE b L (tE b L (tE b L n)))) ⟨by omega, er4.2.1.2⟩
  revert h
  unfold liP
  split
  · exact fun w => absurd w (show (2 : Int) ≠ 0 by decide)
  · split
    · unfold rwP
      split
      · rename_i c
        exact fun w => absurd w c
      · intro w
        have r := ro_rng b L (tV b L (tE b L n)) 7 0 (tE b L (tE b L n)) q.1 (by omega) er2.2.1.2 w
        show n < (roP b L (tV b L (tE b L n)) 7 0 (tE b L (tE b L n)) q.1).2.2.1 ∧ (roP b L (tV b L (tE b L n)) 7 0 (tE b L (tE b L n)) q.1).2.2.1 ≤ L
        omega
    · split
      · unfold thP
        split
        · rename_i c
          exact fun w => absurd w c
        · split
          · rename_i c
            exact fun w => absurd w c
          · split
            · rename_i c
              exact fun w => absurd w c
            · intro _
              show n < tE b L (tE b L (tE b L (tE b L n))) ∧ tE b L (tE b L (tE b L (tE b L n))) ≤ L
              omega
      · unfold laP
        split
        · exact fun w => absurd w (show (5 : Int) ≠ 0 by decide)
        · split
          · rename_i c
            exact fun w => absurd w c
          · split
            · rename_i c
              exact fun w => absurd w c
            · split
              · rename_i c
                exact fun w => absurd w c
              · split
                · rename_i c
                  exact fun w => absurd w c
                · intro _
                  show n < tE b L (tE b L (tE b L (tE b L (tE b L n)))) ∧ tE b L (tE b L (tE b L (tE b L (tE b L n)))) ≤ L
                  omega
