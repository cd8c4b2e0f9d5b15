/-! PURE PROOFS 78: a line, the other, whole -/
theorem nm_rng (b : Int → Int) (s e : Int) : ∀ (j n : Nat), n + j ≤ 6 → nmN b s e j n = -4 ∨ (0 ≤ nmN b s e j n ∧ nmN b s e j n ≤ 5) := by
  intro j
  induction j with
  | zero =>
    intro n _
    exact Or.inl rfl
  | succ j ih =>
    intro n hn
    rw [nmN_s]
    split
    · exact Or.inr ⟨by omega, by omega⟩
    · exact ih (n + 1) (by omega)
theorem nu_bad {b : Int → Int} {L lo hi n : Int} (h : tB b L n ≠ 0) : nuK b L lo hi n = 1 := by
  unfold nuK
  rw [if_pos h]
theorem ot_bad {b : Int → Int} {L lo hi so n : Int} (h : tB b L n ≠ 0) : otK b L lo hi so n = 1 := by
  unfold otK
  rw [nu_bad h, if_pos (by decide)]
def LnM (B : mMem) (b : Int → Int) (L : Int) (B' : mMem) (R : Int × Int × Int × Sig) : Prop := GFr B' B ∧ ((R.1 = 0 ∧ LkM B' b L R.2.2.1 ∧ PgT B' R.2.2.2) ∨ (0 < R.1 ∧ B' 53 7 = R.1 ∧ B' 53 8 = R.2.1))
theorem M_line (d : Nat) {B : mMem} {b : Int → Int} {L n : Int} {q : Sig} (tp : TpM B b L) (hn : 0 ≤ n ∧ n ≤ L) (lk : LkM B b L n) (hb : tB b L n = 0) (h : PgT B q) (h57 : B 57 = M0 57) (h58 : B 58 = M0 58) : mN3 (d + 6) 125 [vr 53] B (fun B' => LnM B b L B' (liP b L n q)) := by
  have er := tE_rng (b := b) hn
  have er2 := tE_rng (b := b) (L := L) (n := tE b L n) ⟨by omega, er.2.1.2⟩
  have eR : liP b L n q = if tT b L n ≠ 1 ∨ nmN b (tS b L n) (tE b L n) 6 0 < 0 then (2, tS b L n, n, q) else if nmN b (tS b L n) (tE b L n) 6 0 = 4 then rwP b L (tE b L n) q else if nmN b (tS b L n) (tE b L n) 6 0 = 5 then thP b L (tE b L n) q else laP b L (nmN b (tS b L n) (tE b L n) 6 0) (tS b L n) (tE b L n) q := rfl
  have hs : 0 ≤ tS b L n ∧ tS b L n ≤ tE b L n ∧ tE b L n ≤ L := by omega
  have hm : 0 ≤ tE b L n ∧ tE b L n ≤ L := by omega
  have rg := nm_rng b (tS b L n) (tE b L n) 6 0 (by omega)
  generalize liP b L n q = R at *
  obtain ⟨l10, lk⟩ := lk
  rcases lk with ⟨_, e7, e11, e9, _⟩ | ⟨b1, _⟩
  · refine mN3_i ⟨by decide, Nat.le_of_ble_eq_true rfl⟩ (fun K hK => q_M_readLine_0 hK B ?_)
    have fl : R = (2, tS b L n, n, q) → ∃ m6, mR3 (d + 5) 119 [vr 53, vi 2] (S0, B) (none, (S0, m6)) ∧ rN (fun B' => LnM B b L B' R) none (S0, m6) := by
      intro w
      refine cN (M_fails (d + 4) B 2) (fun m p => ?_)
      rcases p.2.2.2.2.2 with ⟨u, _⟩ | ⟨_, u1, u2⟩
      · exact absurd e7 u
      · refine rN_i ⟨GFr_m p.1, Or.inr ⟨by rw [w]; show (0 : Int) < 2; decide, by rw [w, u1], by rw [w, u2, l10]⟩⟩
    by_cases t1 : tT b L n = 1
    · have nm := M_name (d + 3) (b := b) (L := L) (s := tS b L n) (e := tE b L n) tp h57 h58 e9 l10 hs (by rw [e11, t1])
      generalize nmN b (tS b L n) (tE b L n) 6 0 = k at *
      refine ⟨_, _, nm, _, _, R_in (d + 4) B _ _ _, fun w => ?_, fun w => ?_⟩
      · have w := b2_n0.mp w
        have kr : 0 ≤ k ∧ k ≤ 5 := by omega
        rw [if_neg (by omega)] at eR
        have c5 := h.2.2.2.2.2.1
        have e39 := h.2.2.1
        have k44 : (k ≤ 3 → q.2.2.2.1 < 5) → K 44 [(0, vr 53), (1, vi k)] [] (S0, B) := by
          intro kc
          refine q_M_readLine_44 hK k B (cN (M_next (d + 3) tp hm e7 e9) (fun B2 p2 => ?_))
          obtain ⟨f2, lk2⟩ := p2
          have lk3 := lk2
          obtain ⟨_, lk2⟩ := lk2
          rcases lk2 with ⟨b0, g7, _⟩ | ⟨b1, g7, g8⟩
          · have mo : mN3 (d + 5) 124 [vr 53, vi k] B2 (fun B' => MoM B2 b L B' R) := by
              by_cases k4 : k = 4
              · rw [if_pos k4] at eR
                rw [k4, eR]
                exact M_more4 d (TpM_fr tp f2) hm lk3 (PgT_m h f2)
              · rw [if_neg k4] at eR
                by_cases k5 : k = 5
                · rw [if_pos k5] at eR
                  rw [k5, eR]
                  exact M_more5 d (TpM_fr tp f2) hm lk3 (PgT_m h f2)
                · rw [if_neg k5] at eR
                  rw [eR]
                  exact M_more3 d (TpM_fr tp f2) hm lk3 (PgT_m h f2) (by omega) (kc (by omega))
            refine br_t (by omega) (cN mo (fun B3 p3 => ?_))
            obtain ⟨gf3, p3⟩ := p3
            have gf := GFr_trans gf3 (GFr_m f2)
            rcases p3 with ⟨m, q', mr, lk4, pg, s0, s1⟩ | ⟨r1, i7, i8⟩
            · obtain ⟨j10, lk4⟩ := lk4
              have mr2 := tE_rng (b := b) mr
              have eS : stK b L m = if tB b L m ≠ 0 then 1 else if tT b L m ≠ 3 then 2 else 0 := rfl
              rcases lk4 with ⟨m0, j7, j11, j9, _⟩ | ⟨m1, j7, j8⟩
              · rw [if_neg (fun w => w m0)] at eS
                refine br_f (fun w => w j7) ⟨fun w => cN (M_next (d + 3) (TpM_g tp gf) (n := tE b L m) ⟨by omega, mr2.2.1.2⟩ j7 j9) (fun B4 p4 => ?_), fun w => cN (M_fails (d + 4) B3 2) (fun B4 p4 => ?_)⟩
                · rw [j11] at w
                  rw [if_neg (fun z => z w)] at eS
                  have eq := s0 eS
                  exact rN_i ⟨GFr_trans (GFr_m p4.1) gf, Or.inl ⟨by rw [eq], by rw [eq]; exact p4.2, by rw [eq]; exact PgT_m pg p4.1⟩⟩
                · rw [j11] at w
                  rw [if_pos w] at eS
                  have eq := s1 (by omega)
                  rcases p4.2.2.2.2.2 with ⟨u, _⟩ | ⟨_, u1, u2⟩
                  · exact absurd j7 u
                  · exact ⟨_, M_next0 (d + 3) (by omega), rN_i ⟨GFr_trans (GFr_m p4.1) gf, Or.inr ⟨by omega, by omega, by rw [eq.2, u2, j10]⟩⟩⟩
              · rw [if_pos m1] at eS
                have eq := s1 (by omega)
                exact br_t (by omega) ⟨_, M_next0 (d + 3) (by omega), rN_i ⟨gf, Or.inr ⟨by omega, by omega, by rw [eq.2, j8]⟩⟩⟩
            · exact br_t (by omega) ⟨_, M_next0 (d + 3) (by omega), rN_i ⟨gf, Or.inr ⟨r1, i7, i8⟩⟩⟩
          · have bad : R.1 = 1 ∧ R.2.1 = tS b L (tE b L n) := by
              by_cases k4 : k = 4
              · rw [if_pos k4] at eR
                rw [eR]
                unfold rwP
                rw [ot_bad b1, if_pos (by decide)]
                exact ⟨rfl, rfl⟩
              · rw [if_neg k4] at eR
                by_cases k5 : k = 5
                · rw [if_pos k5] at eR
                  rw [eR]
                  unfold thP
                  rw [ot_bad b1, if_pos (by decide)]
                  exact ⟨rfl, rfl⟩
                · rw [if_neg k5] at eR
                  rw [eR]
                  unfold laP
                  have z := kc (by omega)
                  rw [if_neg (by omega), nu_bad b1, if_pos (by decide)]
                  exact ⟨rfl, rfl⟩
            exact br_f (by omega) (rN_i ⟨GFr_m f2, Or.inr ⟨by omega, by omega, by rw [bad.2, g8]⟩⟩)
        refine ⟨fun z => k44 (fun y => by omega), fun z => ⟨fun y => k44 (fun _ => by omega), fun y => cN (M_fails (d + 4) B 5) (fun m p => ?_)⟩⟩
        rcases p.2.2.2.2.2 with ⟨u, _⟩ | ⟨_, u1, u2⟩
        · exact absurd e7 u
        · rw [if_neg (by omega), if_neg (by omega)] at eR
          have la : laP b L k (tS b L n) (tE b L n) q = (5, tS b L n, tE b L n, q) := by
            unfold laP
            rw [if_pos (by omega)]
          rw [la] at eR
          exact q_M_readLine_44 hK k m ⟨_, M_next0 (d + 3) (by omega), br_f (by omega) (rN_i ⟨GFr_m p.1, Or.inr ⟨by rw [eR]; show (0 : Int) < 5; decide, by rw [eR, u1], by rw [eR, u2, l10]⟩⟩)⟩
      · have w := b2_0.mp (Decidable.not_not.mp w)
        rw [if_pos (by omega)] at eR
        exact fl eR
    · have nm : mR3 (d + 5) 120 [vr 53] (S0, B) (some (vi (-4)), (S0, B)) := ⟨⟨by decide, Nat.le_of_ble_eq_true rfl⟩, fun K hK => q_M_nameHere_0 hK B (q_M_nameHere_2 hK 0 B (br_f (by decide) (br_t (by rw [e11]; exact t1) (mret_i rfl rfl))))⟩
      rw [if_pos (Or.inl t1)] at eR
      exact ⟨_, _, nm, _, _, R_in (d + 4) B _ _ _, br_f (fun w => w (b2_0.mpr (by omega))) (fl eR)⟩
  · exact absurd hb b1
