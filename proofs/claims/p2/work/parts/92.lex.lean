/-! PURE PROOFS 67: tokens -/
def rnF (b : Int → Int) (L : Int) (p : Int → Int) : Nat → Int → Int
  | 0, n => n
  | j + 1, n => if n < L ∧ p (b n) ≠ 0 then rnF b L p j (n + 1) else n
theorem rnF_s (b : Int → Int) (L : Int) (p : Int → Int) (j : Nat) (n : Int) : rnF b L p (j + 1) n = if n < L ∧ p (b n) ≠ 0 then rnF b L p j (n + 1) else n := rfl
theorem rnF_rng (b : Int → Int) (L : Int) (p : Int → Int) : ∀ (j : Nat) (n : Int), n ≤ L → n ≤ rnF b L p j n ∧ rnF b L p j n ≤ L
  | 0, n, h => ⟨Int.le_refl _, h⟩
  | j + 1, n, h => by
    rw [rnF_s]
    split
    · rename_i q
      have g := rnF_rng b L p j (n + 1) (by omega)
      omega
    · omega
def p1 (c : Int) : Int := b2 (c = 32)
def p2 (c : Int) : Int := b2 (97 ≤ c ∧ c ≤ 122)
def p3 (c : Int) : Int := b2 (48 ≤ c ∧ c ≤ 57)
def tS (b : Int → Int) (L n : Int) : Int := rnF b L p1 160 n
def tE (b : Int → Int) (L n : Int) : Int := if tS b L n < L then (if p2 (b (tS b L n)) ≠ 0 then rnF b L p2 160 (tS b L n) else if p3 (b (tS b L n)) ≠ 0 then rnF b L p3 160 (tS b L n) else tS b L n + 1) else tS b L n
def tT (b : Int → Int) (L n : Int) : Int := if tS b L n < L then (if p2 (b (tS b L n)) ≠ 0 then 1 else if p3 (b (tS b L n)) ≠ 0 then 2 else 3) else 0
def tB (b : Int → Int) (L n : Int) : Int := if tS b L n < L then (if p2 (b (tS b L n)) ≠ 0 then 0 else if p3 (b (tS b L n)) ≠ 0 then b2 (2 < rnF b L p3 160 (tS b L n) - tS b L n) else b2 (b (tS b L n) ≠ 59)) else 0
def tV (b : Int → Int) (L n : Int) : Int := if tE b L n - tS b L n = 1 then b (tS b L n) - 48 else 10 * (b (tS b L n) - 48) + b (tS b L n + 1) - 48
theorem R_isLetter (d : Nat) (M : mMem) (x : Int) : mR3 (d + 1) 34 [vi x] (S0, M) (some (vi (p2 x)), (S0, M)) := by
  refine ⟨⟨by decide, Nat.le_of_ble_eq_true rfl⟩, fun K hK => q_T_isLetter_0 hK x M ?_⟩
  unfold p2
  repeat' (first | refine br_c (fun _ => ?_) (fun _ => ?_))
  all_goals first | exact mret_i (b2_t (by omega)).symm rfl | exact mret_i (b2_f (by omega)).symm rfl
theorem R_isFigure (d : Nat) (M : mMem) (x : Int) : mR3 (d + 1) 35 [vi x] (S0, M) (some (vi (p3 x)), (S0, M)) := by
  refine ⟨⟨by decide, Nat.le_of_ble_eq_true rfl⟩, fun K hK => q_T_isFigure_0 hK x M ?_⟩
  unfold p3
  repeat' (first | refine br_c (fun _ => ?_) (fun _ => ?_))
  all_goals first | exact mret_i (b2_t (by omega)).symm rfl | exact mret_i (b2_f (by omega)).symm rfl
def TFr (A' A : mMem) : Prop := (∀ k : Nat, k ≠ 35 → A' k = A k) ∧ A' 35 1 = A 35 1 ∧ A' 35 8 = A 35 8 ∧ A' 35 9 = A 35 9
theorem TFr_refl (A : mMem) : TFr A A := ⟨fun _ _ => rfl, rfl, rfl, rfl⟩
theorem TFr_trans {A B C : mMem} (h : TFr A B) (g : TFr B C) : TFr A C := ⟨fun k q => (h.1 k q).trans (g.1 k q), h.2.1.trans g.2.1, h.2.2.1.trans g.2.2.1, h.2.2.2.trans g.2.2.2⟩
theorem TFr_u {A' A : mMem} (h : TFr A' A) {i v : Int} (h1 : i ≠ 1) (h8 : i ≠ 8) (h9 : i ≠ 9) : TFr (mupd A' 35 i v) A :=
  TFr_trans ⟨fun k q => mupd_ne _ _ _ q, by rw [mupd_at, fup_ne _ _ (fun q => h1 q.symm)], by rw [mupd_at, fup_ne _ _ (fun q => h8 q.symm)], by rw [mupd_at, fup_ne _ _ (fun q => h9 q.symm)]⟩ h
theorem T_fail (d : Nat) (A : mMem) (x : Int) : mN3 (d + 1) 32 [vr 35, vi x] A (fun A' => TFr A' A ∧ A' 35 4 = A 35 4 ∧ A' 35 5 = A 35 5 ∧ A' 35 6 = A 35 6 ∧ A' 35 7 = A 35 7 ∧ ((A 35 2 ≠ 0 ∧ A' 35 2 = A 35 2 ∧ A' 35 3 = A 35 3) ∨ (A 35 2 = 0 ∧ A' 35 2 = x ∧ A' 35 3 = A 35 6))) := by
  refine mN3_i ⟨by decide, Nat.le_of_ble_eq_true rfl⟩ (fun K hK => q_T_fail_0 hK x A ⟨fun q => rN_i ⟨TFr_refl A, rfl, rfl, rfl, rfl, Or.inl ⟨q, rfl, rfl⟩⟩, fun q => rN_i ⟨TFr_u (TFr_u (TFr_refl A) (by decide) (by decide) (by decide)) (by decide) (by decide) (by decide), ?_, ?_, ?_, ?_, Or.inr ⟨Decidable.not_not.mp q, ?_, ?_⟩⟩⟩)
  · rw [mupd_at, fup_ne _ _ (by decide), mupd_at, fup_ne _ _ (by decide)]
  · rw [mupd_at, fup_ne _ _ (by decide), mupd_at, fup_ne _ _ (by decide)]
  · rw [mupd_at, fup_ne _ _ (by decide), mupd_at, fup_ne _ _ (by decide)]
  · rw [mupd_at, fup_ne _ _ (by decide), mupd_at, fup_ne _ _ (by decide)]
  · rw [mupd_at, fup_ne _ _ (by decide), mupd_at, fup_at]
  · rw [mupd_at, fup_at, mupd_at, fup_ne _ _ (by decide)]
/-- what the class knows behind a token read at n -/
def TkL (A A' : mMem) (n : Int) : Prop := TFr A' A ∧ A' 35 6 = tS (A 36) (A 35 1) n ∧ ((tB (A 36) (A 35 1) n = 0 ∧ A' 35 2 = 0 ∧ A' 35 3 = A 35 3 ∧ A' 35 5 = tT (A 36) (A 35 1) n ∧ A' 35 4 = tE (A 36) (A 35 1) n ∧ (tT (A 36) (A 35 1) n = 2 → A' 35 7 = tV (A 36) (A 35 1) n)) ∨ (tB (A 36) (A 35 1) n ≠ 0 ∧ A' 35 2 = 1 ∧ A' 35 3 = tS (A 36) (A 35 1) n))
theorem T_token (d : Nat) {A : mMem} {n : Int} (hn : 0 ≤ n ∧ n ≤ A 35 1) (hL : A 35 1 ≤ 160) (hb : ∀ i : Int, 0 ≤ i → i < A 35 1 → 0 ≤ A 36 i ∧ A 36 i ≤ 127) (h2 : A 35 2 = 0) (h4 : A 35 4 = n) : mN3 (d + 2) 33 [vr 35] A (fun A' => TkL A A' n) := by
  refine mN3_i ⟨by decide, Nat.le_of_ble_eq_true rfl⟩ (fun K hK => q_T_readToken_0 hK A (br_t h2 ?_))
  have sr := rnF_rng (A 36) (A 35 1) p1 160 n hn.2
  have es : tS (A 36) (A 35 1) n = rnF (A 36) (A 35 1) p1 160 n := rfl
  unfold TkL at hK
  have eE : tE (A 36) (A 35 1) n = if tS (A 36) (A 35 1) n < A 35 1 then (if p2 (A 36 (tS (A 36) (A 35 1) n)) ≠ 0 then rnF (A 36) (A 35 1) p2 160 (tS (A 36) (A 35 1) n) else if p3 (A 36 (tS (A 36) (A 35 1) n)) ≠ 0 then rnF (A 36) (A 35 1) p3 160 (tS (A 36) (A 35 1) n) else tS (A 36) (A 35 1) n + 1) else tS (A 36) (A 35 1) n := rfl
  have eT : tT (A 36) (A 35 1) n = if tS (A 36) (A 35 1) n < A 35 1 then (if p2 (A 36 (tS (A 36) (A 35 1) n)) ≠ 0 then 1 else if p3 (A 36 (tS (A 36) (A 35 1) n)) ≠ 0 then 2 else 3) else 0 := rfl
  have eB : tB (A 36) (A 35 1) n = if tS (A 36) (A 35 1) n < A 35 1 then (if p2 (A 36 (tS (A 36) (A 35 1) n)) ≠ 0 then 0 else if p3 (A 36 (tS (A 36) (A 35 1) n)) ≠ 0 then b2 (2 < rnF (A 36) (A 35 1) p3 160 (tS (A 36) (A 35 1) n) - tS (A 36) (A 35 1) n) else b2 (A 36 (tS (A 36) (A 35 1) n) ≠ 59)) else 0 := rfl
  have eV : tV (A 36) (A 35 1) n = if tE (A 36) (A 35 1) n - tS (A 36) (A 35 1) n = 1 then A 36 (tS (A 36) (A 35 1) n) - 48 else 10 * (A 36 (tS (A 36) (A 35 1) n) - 48) + A 36 (tS (A 36) (A 35 1) n + 1) - 48 := rfl
  rw [← es] at sr
  generalize hs : tS (A 36) (A 35 1) n = s at *
  generalize tT (A 36) (A 35 1) n = T at *
  generalize tB (A 36) (A 35 1) n = B at *
  generalize tV (A 36) (A 35 1) n = V at *
  generalize tE (A 36) (A 35 1) n = E at *
  generalize hbb : A 36 = b at *
  generalize hLL : A 35 1 = L at *
  have k46 : ∀ A' : mMem, TFr A' A → A' 35 4 = s → A' 35 2 = 0 → A' 35 3 = A 35 3 → K 46 [(0, vr 35)] [] (S0, A') := by
    intro A' f e4 e2 e3
    have g4 : mupd A' 35 6 (A' 35 4) 35 4 = s := by rw [mupd_at, fup_ne _ _ (by decide), e4]
    have g6 : mupd A' 35 6 (A' 35 4) 35 6 = s := by rw [mupd_at, fup_at, e4]
    have g2 : mupd A' 35 6 (A' 35 4) 35 2 = 0 := by rw [mupd_at, fup_ne _ _ (by decide), e2]
    have g3 : mupd A' 35 6 (A' 35 4) 35 3 = A 35 3 := by rw [mupd_at, fup_ne _ _ (by decide), e3]
    have gf : TFr (mupd A' 35 6 (A' 35 4)) A := TFr_u f (by decide) (by decide) (by decide)
    refine q_T_readToken_46 hK A' ?_
    generalize mupd A' 35 6 (A' 35 4) = m at g4 g6 g2 g3 gf
    have g1 : m 35 1 = L := by rw [gf.2.1, hLL]
    have g36 : m 36 = b := by rw [gf.1 36 (by decide), hbb]
    rw [g4, g1, g36]
    refine ⟨fun q => ?_, fun q => ?_⟩
    · rw [if_pos q] at eE eT eB
      have bs := hb s (by omega) q
      refine mIn_i (by omega) (by omega) ⟨_, _, R_isLetter d m _, fun z => ?_, fun z => ?_⟩
      · rw [if_neg (fun w => w z)] at eE eT eB
        rw [g4, g36]
        refine mIn_i (by omega) (by omega) ⟨_, _, R_isFigure d m _, fun z2 => ?_, fun z2 => ?_⟩
        · rw [if_neg (fun w => w z2)] at eE eT eB
          rw [g4, g36]
          refine mIn_i (by omega) (by omega) ⟨fun z3 => ?_, fun z3 => ?_⟩
          · rw [b2_t z3] at eB
            refine cN (T_fail d m 1) (fun m2 p => rN_i ⟨TFr_trans p.1 gf, by rw [p.2.2.2.1, g6], Or.inr ⟨by omega, ?_⟩⟩)
            rcases p.2.2.2.2.2 with ⟨w, _⟩ | ⟨_, w1, w2⟩
            · exact absurd g2 w
            · exact ⟨w1, by rw [w2, g6]⟩
          · rw [b2_f z3] at eB
            have u4 : mupd m 35 5 3 35 4 = s := by rw [mupd_at, fup_ne _ _ (by decide), g4]
            rw [u4, w32_s (z := s + 1) (by omega) (by omega)]
            refine rN_i ⟨TFr_u (TFr_u gf (by decide) (by decide) (by decide)) (by decide) (by decide) (by decide), ?_, Or.inl ⟨eB, ?_, ?_, ?_, ?_, fun w => absurd w (by omega)⟩⟩
            · rw [mupd_at, fup_ne _ _ (by decide), mupd_at, fup_ne _ _ (by decide), g6]
            · rw [mupd_at, fup_ne _ _ (by decide), mupd_at, fup_ne _ _ (by decide), g2]
            · rw [mupd_at, fup_ne _ _ (by decide), mupd_at, fup_ne _ _ (by decide), g3]
            · rw [mupd_at, fup_ne _ _ (by decide), mupd_at, fup_at, eT]
            · rw [mupd_at, fup_at, eE]
        · rw [if_pos z2] at eE eT eB
          have er := rnF_rng b L p3 160 s (by omega)
          have k220 : ∀ m2 : mMem, TFr m2 A → m2 35 4 = E → m2 35 6 = s → m2 35 2 = 0 → m2 35 3 = A 35 3 → m2 35 5 = 2 → (E - s ≤ 2 → m2 35 7 = V) → K 220 [(0, vr 35)] [] (S0, m2) := by
            intro m2 a1 a4 a6 a2 a3 a5 a7
            refine q_T_readToken_220 hK m2 ?_
            rw [a4, a6, w32_s (z := E - s) (by omega) (by omega)]
            refine ⟨fun y => rN_i ⟨a1, a6, Or.inl ⟨?_, a2, a3, by rw [a5, eT], a4, fun _ => a7 y⟩⟩, fun y => cN (T_fail d m2 1) (fun m3 p => rN_i ⟨TFr_trans p.1 a1, by rw [p.2.2.2.1, a6], Or.inr ⟨?_, ?_⟩⟩)⟩
            · rw [eB, b2_f (by omega)]
            · rw [eB, b2_t (by omega)]
              decide
            · rcases p.2.2.2.2.2 with ⟨w, _⟩ | ⟨_, w1, w2⟩
              · exact absurd a2 w
              · exact ⟨w1, by rw [w2, a6]⟩
          have l157 : ∀ (j : Nat) (i : Int), s ≤ i → i ≤ L → L ≤ i + j → rnF b L p3 j i = E → ∀ (m2 : mMem), TFr m2 A → m2 35 4 = i → m2 35 6 = s → m2 35 2 = 0 → m2 35 3 = A 35 3 → m2 35 5 = 2 → ((i = s ∧ m2 35 7 = 0) ∨ (i = s + 1 ∧ m2 35 7 = b s - 48) ∨ (i = s + 2 ∧ m2 35 7 = 10 * (b s - 48) + b (s + 1) - 48) ∨ s + 2 < i) → K 157 [(0, vr 35)] [] (S0, m2) := by
            intro j
            induction j with
            | zero =>
              intro i i0 i1 i2 ie m2 a1 a4 a6 a2 a3 a5 a7
              have ie : i = E := ie
              have m1 : m2 35 1 = L := by rw [a1.2.1, hLL]
              refine q_T_readToken_157 hK m2 (br_t (by omega) (k220 m2 a1 (by omega) a6 a2 a3 a5 (fun y => ?_)))
              have gt : rnF b L p3 160 s = E := eE.symm
              rw [eV]
              rcases a7 with ⟨w1, w2⟩ | ⟨w1, w2⟩ | ⟨w1, w2⟩ | w1
              · exact absurd q (by omega)
              · rw [if_pos (by omega)]
                exact w2
              · rw [if_neg (by omega)]
                exact w2
              · exact absurd y (by omega)
            | succ j ih =>
              intro i i0 i1 i2 ie m2 a1 a4 a6 a2 a3 a5 a7
              have m1 : m2 35 1 = L := by rw [a1.2.1, hLL]
              have m36 : m2 36 = b := by rw [a1.1 36 (by decide), hbb]
              rw [rnF_s] at ie
              have fin : ¬ (i < L ∧ p3 (b i) ≠ 0) → K 220 [(0, vr 35)] [] (S0, m2) := fun w => by
                rw [if_neg w] at ie
                refine k220 m2 a1 (by omega) a6 a2 a3 a5 (fun y => ?_)
                rw [eV]
                rcases a7 with ⟨w1, w2⟩ | ⟨w1, w2⟩ | ⟨w1, w2⟩ | w1
                · exact absurd ⟨by omega, by rw [w1]; exact z2⟩ w
                · rw [if_pos (by omega)]
                  exact w2
                · rw [if_neg (by omega)]
                  exact w2
                · exact absurd y (by omega)
              refine q_T_readToken_157 hK m2 ⟨fun w => fin (by omega), fun w => ?_⟩
              rw [a4, m36]
              refine mIn_i (by omega) (by omega) ⟨_, _, R_isFigure d m2 _, fun w2 => fin (fun u => u.2 w2), fun w2 => ?_⟩
              have bi := hb i (by omega) (by omega)
              rw [if_pos ⟨by omega, w2⟩] at ie
              rw [a4, m36]
              have u4 : ∀ v, mupd m2 35 7 v 35 4 = i := fun v => by rw [mupd_at, fup_ne _ _ (by decide), a4]
              rw [u4, w32_s (z := i + 1) (by omega) (by omega)]
              refine mIn_i (by omega) (by omega) (ih (i + 1) (by omega) (by omega) (by omega) ie _ (TFr_u (TFr_u a1 (by decide) (by decide) (by decide)) (by decide) (by decide) (by decide)) ?_ ?_ ?_ ?_ ?_ ?_)
              · rw [mupd_at, fup_at]
              · rw [mupd_at, fup_ne _ _ (by decide), mupd_at, fup_ne _ _ (by decide), a6]
              · rw [mupd_at, fup_ne _ _ (by decide), mupd_at, fup_ne _ _ (by decide), a2]
              · rw [mupd_at, fup_ne _ _ (by decide), mupd_at, fup_ne _ _ (by decide), a3]
              · rw [mupd_at, fup_ne _ _ (by decide), mupd_at, fup_ne _ _ (by decide), a5]
              · rw [mupd_at, fup_ne _ _ (by decide), mupd_at, fup_at]
                rcases a7 with ⟨w1, v2⟩ | ⟨w1, v2⟩ | ⟨w1, v2⟩ | w1
                · refine Or.inr (Or.inl ⟨by omega, ?_⟩)
                  rw [v2, w1] at *
                  rw [w32_s (z := 10 * 0) (by decide) (by decide), w32_s (z := 10 * 0 + b s) (by omega) (by omega), w32_s (by omega) (by omega)]
                  omega
                · refine Or.inr (Or.inr (Or.inl ⟨by omega, ?_⟩))
                  have bs2 : p3 (b s) ≠ 0 := z2
                  have bs3 := b2_n0.mp bs2
                  rw [v2, w1]
                  rw [w1] at bi
                  rw [w32_s (z := 10 * (b s - 48)) (by omega) (by omega), w32_s (z := 10 * (b s - 48) + b (s + 1)) (by omega) (by omega), w32_s (by omega) (by omega)]
                · exact Or.inr (Or.inr (Or.inr (by omega)))
                · exact Or.inr (Or.inr (Or.inr (by omega)))
          refine l157 160 s (by omega) (by omega) (by omega) eE.symm _ (TFr_u (TFr_u gf (by decide) (by decide) (by decide)) (by decide) (by decide) (by decide)) ?_ ?_ ?_ ?_ ?_ (Or.inl ⟨rfl, ?_⟩)
          · rw [mupd_at, fup_ne _ _ (by decide), mupd_at, fup_ne _ _ (by decide), g4]
          · rw [mupd_at, fup_ne _ _ (by decide), mupd_at, fup_ne _ _ (by decide), g6]
          · rw [mupd_at, fup_ne _ _ (by decide), mupd_at, fup_ne _ _ (by decide), g2]
          · rw [mupd_at, fup_ne _ _ (by decide), mupd_at, fup_ne _ _ (by decide), g3]
          · rw [mupd_at, fup_ne _ _ (by decide), mupd_at, fup_at]
          · rw [mupd_at, fup_at]
      · rw [if_pos z] at eE eT eB
        have er := rnF_rng b L p2 160 s (by omega)
        have l93 : ∀ (j : Nat) (i : Int), s ≤ i → i ≤ L → L ≤ i + j → rnF b L p2 j i = E → ∀ (m2 : mMem), TFr m2 A → m2 35 4 = i → m2 35 6 = s → m2 35 2 = 0 → m2 35 3 = A 35 3 → m2 35 5 = 1 → K 93 [(0, vr 35)] [] (S0, m2) := by
          intro j
          induction j with
          | zero =>
            intro i i0 i1 i2 ie m2 a1 a4 a6 a2 a3 a5
            have ie : i = E := ie
            have m1 : m2 35 1 = L := by rw [a1.2.1, hLL]
            exact q_T_readToken_93 hK m2 (br_t (by omega) (rN_i ⟨a1, a6, Or.inl ⟨eB, a2, a3, by rw [a5, eT], by omega, fun w => absurd w (by omega)⟩⟩))
          | succ j ih =>
            intro i i0 i1 i2 ie m2 a1 a4 a6 a2 a3 a5
            have m1 : m2 35 1 = L := by rw [a1.2.1, hLL]
            have m36 : m2 36 = b := by rw [a1.1 36 (by decide), hbb]
            rw [rnF_s] at ie
            refine q_T_readToken_93 hK m2 ⟨fun w => rN_i ⟨a1, a6, Or.inl ⟨eB, a2, a3, by rw [a5, eT], ?_, fun w => absurd w (by omega)⟩⟩, fun w => ?_⟩
            · rw [if_neg (by omega)] at ie
              omega
            · rw [a4, m36]
              refine mIn_i (by omega) (by omega) ⟨_, _, R_isLetter d m2 _, fun w2 => rN_i ⟨a1, a6, Or.inl ⟨eB, a2, a3, by rw [a5, eT], ?_, fun w => absurd w (by omega)⟩⟩, fun w2 => ?_⟩
              · rw [if_neg (fun u => u.2 w2)] at ie
                omega
              · rw [if_pos ⟨by omega, w2⟩] at ie
                rw [a4, w32_s (z := i + 1) (by omega) (by omega)]
                refine ih (i + 1) (by omega) (by omega) (by omega) ie _ (TFr_u a1 (by decide) (by decide) (by decide)) ?_ ?_ ?_ ?_ ?_
                · rw [mupd_at, fup_at]
                · rw [mupd_at, fup_ne _ _ (by decide), a6]
                · rw [mupd_at, fup_ne _ _ (by decide), a2]
                · rw [mupd_at, fup_ne _ _ (by decide), a3]
                · rw [mupd_at, fup_ne _ _ (by decide), a5]
        refine l93 160 s (by omega) (by omega) (by omega) eE.symm _ (TFr_u gf (by decide) (by decide) (by decide)) ?_ ?_ ?_ ?_ ?_
        · rw [mupd_at, fup_ne _ _ (by decide), g4]
        · rw [mupd_at, fup_ne _ _ (by decide), g6]
        · rw [mupd_at, fup_ne _ _ (by decide), g2]
        · rw [mupd_at, fup_ne _ _ (by decide), g3]
        · rw [mupd_at, fup_at]
    · rw [if_neg q] at eE eT eB
      refine rN_i ⟨TFr_u gf (by decide) (by decide) (by decide), ?_, Or.inl ⟨eB, ?_, ?_, ?_, ?_, fun w => absurd w (by omega)⟩⟩
      · rw [mupd_at, fup_ne _ _ (by decide), g6]
      · rw [mupd_at, fup_ne _ _ (by decide), g2]
      · rw [mupd_at, fup_ne _ _ (by decide), g3]
      · rw [mupd_at, fup_at, eT]
      · rw [mupd_at, fup_ne _ _ (by decide), g4, eE]
  have l8 : ∀ (j : Nat) (i : Int), n ≤ i → i ≤ L → L ≤ i + j → rnF b L p1 j i = s → ∀ (m2 : mMem), TFr m2 A → m2 35 4 = i → m2 35 2 = 0 → m2 35 3 = A 35 3 → K 8 [(0, vr 35)] [] (S0, m2) := by
    intro j
    induction j with
    | zero =>
      intro i i0 i1 i2 ie m2 a1 a4 a2 a3
      have ie : i = s := ie
      have m1 : m2 35 1 = L := by rw [a1.2.1, hLL]
      exact q_T_readToken_8 hK m2 (br_t (by omega) (k46 m2 a1 (by omega) a2 a3))
    | succ j ih =>
      intro i i0 i1 i2 ie m2 a1 a4 a2 a3
      have m1 : m2 35 1 = L := by rw [a1.2.1, hLL]
      have m36 : m2 36 = b := by rw [a1.1 36 (by decide), hbb]
      rw [rnF_s] at ie
      refine q_T_readToken_8 hK m2 ⟨fun w => k46 m2 a1 ?_ a2 a3, fun w => ?_⟩
      · rw [if_neg (by omega)] at ie
        omega
      · rw [a4, m36]
        refine mIn_i (by omega) (by omega) ⟨fun w2 => k46 m2 a1 ?_ a2 a3, fun w2 => ?_⟩
        · rw [if_neg (fun u => u.2 (b2_f w2))] at ie
          omega
        · have w2 := Decidable.not_not.mp w2
          rw [if_pos ⟨by omega, by unfold p1; rw [b2_t w2]; decide⟩] at ie
          rw [w32_s (z := i + 1) (by omega) (by omega)]
          refine ih (i + 1) (by omega) (by omega) (by omega) ie _ (TFr_u a1 (by decide) (by decide) (by decide)) ?_ ?_ ?_
          · rw [mupd_at, fup_at]
          · rw [mupd_at, fup_ne _ _ (by decide), a2]
          · rw [mupd_at, fup_ne _ _ (by decide), a3]
  exact l8 160 n (Int.le_refl _) hn.2 (by omega) es.symm A (TFr_refl A) h4 h2 rfl
