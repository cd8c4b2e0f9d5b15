section
/-! PURE PROOFS 67: tokens -/
def rnF (b : Int → Int) (L : Int) (p : Int → Int) : Nat → Int → Int
  | 0, n => n
  | j + 1, n => if n < L ∧ p (b n) ≠ 0 then rnF b L p j (n + 1) else n
theorem rnF_s (b : Int → Int) (L : Int) (p : Int → Int) (j : Nat) (n : Int) : rnF b L p (j + 1) n = if n < L ∧ p (b n) ≠ 0 then rnF b L p j (n + 1) else n := rfl
theorem rnF_rng (b : Int → Int) (L : Int) (p : Int → Int) : ∀ (j : Nat) (n : Int), n ≤ L → n ≤ rnF b L p j n ∧ rnF b L p j n ≤ L
  | 0, n, h => ⟨Int.le_refl _, h⟩
  | j + 1, n, h => by
    rw [rnF_s]
    split
    · rename_i q
      have g := rnF_rng b L p j (n + 1) (by omega)
      omega
    · omega
def p1 (c : Int) : Int := b2 (c = 32)
def p2 (c : Int) : Int := b2 (97 ≤ c ∧ c ≤ 122)
def p3 (c : Int) : Int := b2 (48 ≤ c ∧ c ≤ 57)
def tS (b : Int → Int) (L n : Int) : Int := rnF b L p1 160 n
def tE (b : Int → Int) (L n : Int) : Int := if tS b L n < L then (if p2 (b (tS b L n)) ≠ 0 then rnF b L p2 160 (tS b L n) else if p3 (b (tS b L n)) ≠ 0 then rnF b L p3 160 (tS b L n) else tS b L n + 1) else tS b L n
def tT (b : Int → Int) (L n : Int) : Int := if tS b L n < L then (if p2 (b (tS b L n)) ≠ 0 then 1 else if p3 (b (tS b L n)) ≠ 0 then 2 else 3) else 0
def tB (b : Int → Int) (L n : Int) : Int := if tS b L n < L then (if p2 (b (tS b L n)) ≠ 0 then 0 else if p3 (b (tS b L n)) ≠ 0 then b2 (2 < rnF b L p3 160 (tS b L n) - tS b L n) else b2 (b (tS b L n) ≠ 59)) else 0
def tV (b : Int → Int) (L n : Int) : Int := if tE b L n - tS b L n = 1 then b (tS b L n) - 48 else 10 * (b (tS b L n) - 48) + b (tS b L n + 1) - 48
theorem R_isLetter (d : Nat) (M : mMem) (x : Int) : mR3 (d + 1) 34 [vi x] (S0, M) (some (vi (p2 x)), (S0, M)) := by
  refine ⟨⟨by decide, Nat.le_of_ble_eq_true rfl⟩, fun K hK => q_T_isLetter_0 hK x M ?_⟩
  unfold p2
  repeat' (first | refine br_c (fun _ => ?_) (fun _ => ?_))
  all_goals first | exact mret_i (b2_t (by omega)).symm rfl | exact mret_i (b2_f (by omega)).symm rfl
theorem R_isFigure (d : Nat) (M : mMem) (x : Int) : mR3 (d + 1) 35 [vi x] (S0, M) (some (vi (p3 x)), (S0, M)) := by
  refine ⟨⟨by decide, Nat.le_of_ble_eq_true rfl⟩, fun K hK => q_T_isFigure_0 hK x M ?_⟩
  unfold p3
  repeat' (first | refine br_c (fun _ => ?_) (fun _ => ?_))
  all_goals first | exact mret_i (b2_t (by omega)).symm rfl | exact mret_i (b2_f (by omega)).symm rfl
def TFr (A' A : mMem) : Prop := (∀ k : Nat, k ≠ 35 → A' k = A k) ∧ A' 35 1 = A 35 1 ∧ A' 35 8 = A 35 8 ∧ A' 35 9 = A 35 9
theorem TFr_refl (A : mMem) : TFr A A := ⟨fun _ _ => rfl, rfl, rfl, rfl⟩
theorem TFr_trans {A B C : mMem} (h : TFr A B) (g : TFr B C) : TFr A C := ⟨fun k q => (h.1 k q).trans (g.1 k q), h.2.1.trans g.2.1, h.2.2.1.trans g.2.2.1, h.2.2.2.trans g.2.2.2⟩
theorem TFr_u {A' A : mMem} (h : TFr A' A) {i v : Int} (h1 : i ≠ 1) (h8 : i ≠ 8) (h9 : i ≠ 9) : TFr (mupd A' 35 i v) A :=
  TFr_trans ⟨fun k q => mupd_ne _ _ _ q, by rw [mupd_at, fup_ne _ _ (fun q => h1 q.symm)], by rw [mupd_at, fup_ne _ _ (fun q => h8 q.symm)], by rw [mupd_at, fup_ne _ _ (fun q => h9 q.symm)]⟩ h
theorem T_fail (d : Nat) (A : mMem) (x : Int) : mN3 (d + 1) 32 [vr 35, vi x] A (fun A' => TFr A' A ∧ A' 35 4 = A 35 4 ∧ A' 35 5 = A 35 5 ∧ A' 35 6 = A 35 6 ∧ A' 35 7 = A 35 7 ∧ ((A 35 2 ≠ 0 ∧ A' 35 2 = A 35 2 ∧ A' 35 3 = A 35 3) ∨ (A 35 2 = 0 ∧ A' 35 2 = x ∧ A' 35 3 = A 35 6))) := by
  refine mN3_i ⟨by decide, Nat.le_of_ble_eq_true rfl⟩ (fun K hK => q_T_fail_0 hK x A ⟨fun q => rN_i ⟨TFr_refl A, rfl, rfl, rfl, rfl, Or.inl ⟨q, rfl, rfl⟩⟩, fun q => rN_i ⟨TFr_u (TFr_u (TFr_refl A) (by decide) (by decide) (by decide)) (by decide) (by decide) (by decide), ?_, ?_, ?_, ?_, Or.inr ⟨Decidable.not_not.mp q, ?_, ?_⟩⟩⟩)
  · rw [mupd_at, fup_ne _ _ (by decide), mupd_at, fup_ne _ _ (by decide)]
  · rw [mupd_at, fup_ne _ _ (by decide), mupd_at, fup_ne _ _ (by decide)]
  · rw [mupd_at, fup_ne _ _ (by decide), mupd_at, fup_ne _ _ (by decide)]
  · rw [mupd_at, fup_ne _ _ (by decide), mupd_at, fup_ne _ _ (by decide)]
  · rw [mupd_at, fup_ne _ _ (by decide), mupd_at, fup_at]
  · rw [mupd_at, fup_at, mupd_at, fup_ne _ _ (by decide)]
/-- what the class knows behind a token read at n -/
def TkL (A A' : mMem) (n : Int) : Prop := TFr A' A ∧ A' 35 6 = tS (A 36) (A 35 1) n ∧ ((tB (A 36) (A 35 1) n = 0 ∧ A' 35 2 = 0 ∧ A' 35 3 = A 35 3 ∧ A' 35 5 = tT (A 36) (A 35 1) n ∧ A' 35 4 = tE (A 36) (A 35 1) n ∧ (tT (A 36) (A 35 1) n = 2 → A' 35 7 = tV (A 36) (A 35 1) n)) ∨ (tB (A 36) (A 35 1) n ≠ 0 ∧ A' 35 2 = 1 ∧ A' 35 3 = tS (A 36) (A 35 1) n))
theorem T_token (d : Nat) {A : mMem} {n : Int} (hn : 0 ≤ n ∧ n ≤ A 35 1) (hL : A 35 1 ≤ 160) (hb : ∀ i : Int, 0 ≤ i → i < A 35 1 → 0 ≤ A 36 i ∧ A 36 i ≤ 127) (h2 : A 35 2 = 0) (h4 : A 35 4 = n) : mN3 (d + 2) 33 [vr 35] A (fun A' => TkL A A' n) := by
  refine mN3_i ⟨by decide, Nat.le_of_ble_eq_true rfl⟩ (fun K hK => q_T_readToken_0 hK A (br_t h2 ?_))
  have sr := rnF_rng (A 36) (A 35 1) p1 160 n hn.2
  have es : tS (A 36) (A 35 1) n = rnF (A 36) (A 35 1) p1 160 n := rfl
  unfold TkL at hK
  have eE : tE (A 36) (A 35 1) n = if tS (A 36) (A 35 1) n < A 35 1 then (if p2 (A 36 (tS (A 36) (A 35 1) n)) ≠ 0 then rnF (A 36) (A 35 1) p2 160 (tS (A 36) (A 35 1) n) else if p3 (A 36 (tS (A 36) (A 35 1) n)) ≠ 0 then rnF (A 36) (A 35 1) p3 160 (tS (A 36) (A 35 1) n) else tS (A 36) (A 35 1) n + 1) else tS (A 36) (A 35 1) n := rfl
  have eT : tT (A 36) (A 35 1) n = if tS (A 36) (A 35 1) n < A 35 1 then (if p2 (A 36 (tS (A 36) (A 35 1) n)) ≠ 0 then 1 else if p3 (A 36 (tS (A 36) (A 35 1) n)) ≠ 0 then 2 else 3) else 0 := rfl
  have eB : tB (A 36) (A 35 1) n = if tS (A 36) (A 35 1) n < A 35 1 then (if p2 (A 36 (tS (A 36) (A 35 1) n)) ≠ 0 then 0 else if p3 (A 36 (tS (A 36) (A 35 1) n)) ≠ 0 then b2 (2 < rnF (A 36) (A 35 1) p3 160 (tS (A 36) (A 35 1) n) - tS (A 36) (A 35 1) n) else b2 (A 36 (tS (A 36) (A 35 1) n) ≠ 59)) else 0 := rfl
  have eV : tV (A 36) (A 35 1) n = if tE (A 36) (A 35 1) n - tS (A 36) (A 35 1) n = 1 then A 36 (tS (A 36) (A 35 1) n) - 48 else 10 * (A 36 (tS (A 36) (A 35 1) n) - 48) + A 36 (tS (A 36) (A 35 1) n + 1) - 48 := rfl
  rw [← es] at sr
  generalize hs : tS (A 36) (A 35 1) n = s at *
  generalize tT (A 36) (A 35 1) n = T at *
  generalize tB (A 36) (A 35 1) n = B at *
  generalize tV (A 36) (A 35 1) n = V at *
  generalize tE (A 36) (A 35 1) n = E at *
  generalize hbb : A 36 = b at *
  generalize hLL : A 35 1 = L at *
  have k46 : ∀ A' : mMem, TFr A' A → A' 35 4 = s → A' 35 2 = 0 → A' 35 3 = A 35 3 → K 46 [(0, vr 35)] [] (S0, A') := by
    intro A' f e4 e2 e3
    have g4 : mupd A' 35 6 (A' 35 4) 35 4 = s := by rw [mupd_at, fup_ne _ _ (by decide), e4]
    have g6 : mupd A' 35 6 (A' 35 4) 35 6 = s := by rw [mupd_at, fup_at, e4]
    have g2 : mupd A' 35 6 (A' 35 4) 35 2 = 0 := by rw [mupd_at, fup_ne _ _ (by decide), e2]
    have g3 : mupd A' 35 6 (A' 35 4) 35 3 = A 35 3 := by rw [mupd_at, fup_ne _ _ (by decide), e3]
    have gf : TFr (mupd A' 35 6 (A' 35 4)) A := TFr_u f (by decide) (by decide) (by decide)
    refine q_T_readToken_46 hK A' ?_
    generalize mupd A' 35 6 (A' 35 4) = m at g4 g6 g2 g3 gf
    have g1 : m 35 1 = L := by rw [gf.2.1, hLL]
    have g36 : m 36 = b := by rw [gf.1 36 (by decide), hbb]
    rw [g4, g1, g36]
    refine ⟨fun q => ?_, fun q => ?_⟩
    · rw [if_pos q] at eE eT eB
      have bs := hb s (by omega) q
      refine mIn_i (by omega) (by omega) ⟨_, _, R_isLetter d m _, fun z => ?_, fun z => ?_⟩
      · rw [if_neg (fun w => w z)] at eE eT eB
        rw [g4, g36]
        refine mIn_i (by omega) (by omega) ⟨_, _, R_isFigure d m _, fun z2 => ?_, fun z2 => ?_⟩
        · rw [if_neg (fun w => w z2)] at eE eT eB
          rw [g4, g36]
          refine mIn_i (by omega) (by omega) ⟨fun z3 => ?_, fun z3 => ?_⟩
          · rw [b2_t z3] at eB
            refine cN (T_fail d m 1) (fun m2 p => rN_i ⟨TFr_trans p.1 gf, by rw [p.2.2.2.1, g6], Or.inr ⟨by omega, ?_⟩⟩)
            rcases p.2.2.2.2.2 with ⟨w, _⟩ | ⟨_, w1, w2⟩
            · exact absurd g2 w
            · exact ⟨w1, by rw [w2, g6]⟩
          · rw [b2_f z3] at eB
            have u4 : mupd m 35 5 3 35 4 = s := by rw [mupd_at, fup_ne _ _ (by decide), g4]
            rw [u4, w32_s (z := s + 1) (by omega) (by omega)]
            refine rN_i ⟨TFr_u (TFr_u gf (by decide) (by decide) (by decide)) (by decide) (by decide) (by decide), ?_, Or.inl ⟨eB, ?_, ?_, ?_, ?_, fun w => absurd w (by omega)⟩⟩
            · rw [mupd_at, fup_ne _ _ (by decide), mupd_at, fup_ne _ _ (by decide), g6]
            · rw [mupd_at, fup_ne _ _ (by decide), mupd_at, fup_ne _ _ (by decide), g2]
            · rw [mupd_at, fup_ne _ _ (by decide), mupd_at, fup_ne _ _ (by decide), g3]
            · rw [mupd_at, fup_ne _ _ (by decide), mupd_at, fup_at, eT]
            · rw [mupd_at, fup_at, eE]
        · rw [if_pos z2] at eE eT eB
          have er := rnF_rng b L p3 160 s (by omega)
          have k220 : ∀ m2 : mMem, TFr m2 A → m2 35 4 = E → m2 35 6 = s → m2 35 2 = 0 → m2 35 3 = A 35 3 → m2 35 5 = 2 → (E - s ≤ 2 → m2 35 7 = V) → K 220 [(0, vr 35)] [] (S0, m2) := by
            intro m2 a1 a4 a6 a2 a3 a5 a7
            refine q_T_readToken_220 hK m2 ?_
            rw [a4, a6, w32_s (z := E - s) (by omega) (by omega)]
            refine ⟨fun y => rN_i ⟨a1, a6, Or.inl ⟨?_, a2, a3, by rw [a5, eT], a4, fun _ => a7 y⟩⟩, fun y => cN (T_fail d m2 1) (fun m3 p => rN_i ⟨TFr_trans p.1 a1, by rw [p.2.2.2.1, a6], Or.inr ⟨?_, ?_⟩⟩)⟩
            · rw [eB, b2_f (by omega)]
            · rw [eB, b2_t (by omega)]
              decide
            · rcases p.2.2.2.2.2 with ⟨w, _⟩ | ⟨_, w1, w2⟩
              · exact absurd a2 w
              · exact ⟨w1, by rw [w2, a6]⟩
          have l157 : ∀ (j : Nat) (i : Int), s ≤ i → i ≤ L → L ≤ i + j → rnF b L p3 j i = E → ∀ (m2 : mMem), TFr m2 A → m2 35 4 = i → m2 35 6 = s → m2 35 2 = 0 → m2 35 3 = A 35 3 → m2 35 5 = 2 → ((i = s ∧ m2 35 7 = 0) ∨ (i = s + 1 ∧ m2 35 7 = b s - 48) ∨ (i = s + 2 ∧ m2 35 7 = 10 * (b s - 48) + b (s + 1) - 48) ∨ s + 2 < i) → K 157 [(0, vr 35)] [] (S0, m2) := by
            intro j
            induction j with
            | zero =>
              intro i i0 i1 i2 ie m2 a1 a4 a6 a2 a3 a5 a7
              have ie : i = E := ie
              have m1 : m2 35 1 = L := by rw [a1.2.1, hLL]
              refine q_T_readToken_157 hK m2 (br_t (by omega) (k220 m2 a1 (by omega) a6 a2 a3 a5 (fun y => ?_)))
              have gt : rnF b L p3 160 s = E := eE.symm
              rw [eV]
              rcases a7 with ⟨w1, w2⟩ | ⟨w1, w2⟩ | ⟨w1, w2⟩ | w1
              · exact absurd q (by omega)
              · rw [if_pos (by omega)]
                exact w2
              · rw [if_neg (by omega)]
                exact w2
              · exact absurd y (by omega)
            | succ j ih =>
              intro i i0 i1 i2 ie m2 a1 a4 a6 a2 a3 a5 a7
              have m1 : m2 35 1 = L := by rw [a1.2.1, hLL]
              have m36 : m2 36 = b := by rw [a1.1 36 (by decide), hbb]
              rw [rnF_s] at ie
              have fin : ¬ (i < L ∧ p3 (b i) ≠ 0) → K 220 [(0, vr 35)] [] (S0, m2) := fun w => by
                rw [if_neg w] at ie
                refine k220 m2 a1 (by omega) a6 a2 a3 a5 (fun y => ?_)
                rw [eV]
                rcases a7 with ⟨w1, w2⟩ | ⟨w1, w2⟩ | ⟨w1, w2⟩ | w1
                · exact absurd ⟨by omega, by rw [w1]; exact z2⟩ w
                · rw [if_pos (by omega)]
                  exact w2
                · rw [if_neg (by omega)]
                  exact w2
                · exact absurd y (by omega)
              refine q_T_readToken_157 hK m2 ⟨fun w => fin (by omega), fun w => ?_⟩
              rw [a4, m36]
              refine mIn_i (by omega) (by omega) ⟨_, _, R_isFigure d m2 _, fun w2 => fin (fun u => u.2 w2), fun w2 => ?_⟩
              have bi := hb i (by omega) (by omega)
              rw [if_pos ⟨by omega, w2⟩] at ie
              rw [a4, m36]
              have u4 : ∀ v, mupd m2 35 7 v 35 4 = i := fun v => by rw [mupd_at, fup_ne _ _ (by decide), a4]
              rw [u4, w32_s (z := i + 1) (by omega) (by omega)]
              refine mIn_i (by omega) (by omega) (ih (i + 1) (by omega) (by omega) (by omega) ie _ (TFr_u (TFr_u a1 (by decide) (by decide) (by decide)) (by decide) (by decide) (by decide)) ?_ ?_ ?_ ?_ ?_ ?_)
              · rw [mupd_at, fup_at]
              · rw [mupd_at, fup_ne _ _ (by decide), mupd_at, fup_ne _ _ (by decide), a6]
              · rw [mupd_at, fup_ne _ _ (by decide), mupd_at, fup_ne _ _ (by decide), a2]
              · rw [mupd_at, fup_ne _ _ (by decide), mupd_at, fup_ne _ _ (by decide), a3]
              · rw [mupd_at, fup_ne _ _ (by decide), mupd_at, fup_ne _ _ (by decide), a5]
              · rw [mupd_at, fup_ne _ _ (by decide), mupd_at, fup_at]
                rcases a7 with ⟨w1, v2⟩ | ⟨w1, v2⟩ | ⟨w1, v2⟩ | w1
                · refine Or.inr (Or.inl ⟨by omega, ?_⟩)
                  rw [v2, w1] at *
                  rw [w32_s (z := 10 * 0) (by decide) (by decide), w32_s (z := 10 * 0 + b s) (by omega) (by omega), w32_s (by omega) (by omega)]
                  omega
                · refine Or.inr (Or.inr (Or.inl ⟨by omega, ?_⟩))
                  have bs2 : p3 (b s) ≠ 0 := z2
                  have bs3 := b2_n0.mp bs2
                  rw [v2, w1]
                  rw [w1] at bi
                  rw [w32_s (z := 10 * (b s - 48)) (by omega) (by omega), w32_s (z := 10 * (b s - 48) + b (s + 1)) (by omega) (by omega), w32_s (by omega) (by omega)]
                · exact Or.inr (Or.inr (Or.inr (by omega)))
                · exact Or.inr (Or.inr (Or.inr (by omega)))
          refine l157 160 s (by omega) (by omega) (by omega) eE.symm _ (TFr_u (TFr_u gf (by decide) (by decide) (by decide)) (by decide) (by decide) (by decide)) ?_ ?_ ?_ ?_ ?_ (Or.inl ⟨rfl, ?_⟩)
          · rw [mupd_at, fup_ne _ _ (by decide), mupd_at, fup_ne _ _ (by decide), g4]
          · rw [mupd_at, fup_ne _ _ (by decide), mupd_at, fup_ne _ _ (by decide), g6]
          · rw [mupd_at, fup_ne _ _ (by decide), mupd_at, fup_ne _ _ (by decide), g2]
          · rw [mupd_at, fup_ne _ _ (by decide), mupd_at, fup_ne _ _ (by decide), g3]
          · rw [mupd_at, fup_ne _ _ (by decide), mupd_at, fup_at]
          · rw [mupd_at, fup_at]
      · rw [if_pos z] at eE eT eB
        have er := rnF_rng b L p2 160 s (by omega)
        have l93 : ∀ (j : Nat) (i : Int), s ≤ i → i ≤ L → L ≤ i + j → rnF b L p2 j i = E → ∀ (m2 : mMem), TFr m2 A → m2 35 4 = i → m2 35 6 = s → m2 35 2 = 0 → m2 35 3 = A 35 3 → m2 35 5 = 1 → K 93 [(0, vr 35)] [] (S0, m2) := by
          intro j
          induction j with
          | zero =>
            intro i i0 i1 i2 ie m2 a1 a4 a6 a2 a3 a5
            have ie : i = E := ie
            have m1 : m2 35 1 = L := by rw [a1.2.1, hLL]
            exact q_T_readToken_93 hK m2 (br_t (by omega) (rN_i ⟨a1, a6, Or.inl ⟨eB, a2, a3, by rw [a5, eT], by omega, fun w => absurd w (by omega)⟩⟩))
          | succ j ih =>
            intro i i0 i1 i2 ie m2 a1 a4 a6 a2 a3 a5
            have m1 : m2 35 1 = L := by rw [a1.2.1, hLL]
            have m36 : m2 36 = b := by rw [a1.1 36 (by decide), hbb]
            rw [rnF_s] at ie
            refine q_T_readToken_93 hK m2 ⟨fun w => rN_i ⟨a1, a6, Or.inl ⟨eB, a2, a3, by rw [a5, eT], ?_, fun w => absurd w (by omega)⟩⟩, fun w => ?_⟩
            · rw [if_neg (by omega)] at ie
              omega
            · rw [a4, m36]
              refine mIn_i (by omega) (by omega) ⟨_, _, R_isLetter d m2 _, fun w2 => rN_i ⟨a1, a6, Or.inl ⟨eB, a2, a3, by rw [a5, eT], ?_, fun w => absurd w (by omega)⟩⟩, fun w2 => ?_⟩
              · rw [if_neg (fun u => u.2 w2)] at ie
                omega
              · rw [if_pos ⟨by omega, w2⟩] at ie
                rw [a4, w32_s (z := i + 1) (by omega) (by omega)]
                refine ih (i + 1) (by omega) (by omega) (by omega) ie _ (TFr_u a1 (by decide) (by decide) (by decide)) ?_ ?_ ?_ ?_ ?_
                · rw [mupd_at, fup_at]
                · rw [mupd_at, fup_ne _ _ (by decide), a6]
                · rw [mupd_at, fup_ne _ _ (by decide), a2]
                · rw [mupd_at, fup_ne _ _ (by decide), a3]
                · rw [mupd_at, fup_ne _ _ (by decide), a5]
        refine l93 160 s (by omega) (by omega) (by omega) eE.symm _ (TFr_u gf (by decide) (by decide) (by decide)) ?_ ?_ ?_ ?_ ?_
        · rw [mupd_at, fup_ne _ _ (by decide), g4]
        · rw [mupd_at, fup_ne _ _ (by decide), g6]
        · rw [mupd_at, fup_ne _ _ (by decide), g2]
        · rw [mupd_at, fup_ne _ _ (by decide), g3]
        · rw [mupd_at, fup_at]
    · rw [if_neg q] at eE eT eB
      refine rN_i ⟨TFr_u gf (by decide) (by decide) (by decide), ?_, Or.inl ⟨eB, ?_, ?_, ?_, ?_, fun w => absurd w (by omega)⟩⟩
      · rw [mupd_at, fup_ne _ _ (by decide), g6]
      · rw [mupd_at, fup_ne _ _ (by decide), g2]
      · rw [mupd_at, fup_ne _ _ (by decide), g3]
      · rw [mupd_at, fup_at, eT]
      · rw [mupd_at, fup_ne _ _ (by decide), g4, eE]
  have l8 : ∀ (j : Nat) (i : Int), n ≤ i → i ≤ L → L ≤ i + j → rnF b L p1 j i = s → ∀ (m2 : mMem), TFr m2 A → m2 35 4 = i → m2 35 2 = 0 → m2 35 3 = A 35 3 → K 8 [(0, vr 35)] [] (S0, m2) := by
    intro j
    induction j with
    | zero =>
      intro i i0 i1 i2 ie m2 a1 a4 a2 a3
      have ie : i = s := ie
      have m1 : m2 35 1 = L := by rw [a1.2.1, hLL]
      exact q_T_readToken_8 hK m2 (br_t (by omega) (k46 m2 a1 (by omega) a2 a3))
    | succ j ih =>
      intro i i0 i1 i2 ie m2 a1 a4 a2 a3
      have m1 : m2 35 1 = L := by rw [a1.2.1, hLL]
      have m36 : m2 36 = b := by rw [a1.1 36 (by decide), hbb]
      rw [rnF_s] at ie
      refine q_T_readToken_8 hK m2 ⟨fun w => k46 m2 a1 ?_ a2 a3, fun w => ?_⟩
      · rw [if_neg (by omega)] at ie
        omega
      · rw [a4, m36]
        refine mIn_i (by omega) (by omega) ⟨fun w2 => k46 m2 a1 ?_ a2 a3, fun w2 => ?_⟩
        · rw [if_neg (fun u => u.2 (b2_f w2))] at ie
          omega
        · have w2 := Decidable.not_not.mp w2
          rw [if_pos ⟨by omega, by unfold p1; rw [b2_t w2]; decide⟩] at ie
          rw [w32_s (z := i + 1) (by omega) (by omega)]
          refine ih (i + 1) (by omega) (by omega) (by omega) ie _ (TFr_u a1 (by decide) (by decide) (by decide)) ?_ ?_ ?_
          · rw [mupd_at, fup_at]
          · rw [mupd_at, fup_ne _ _ (by decide), a2]
          · rw [mupd_at, fup_ne _ _ (by decide), a3]
  exact l8 160 n (Int.le_refl _) hn.2 (by omega) es.symm A (TFr_refl A) h4 h2 rfl
end
section
/-! PURE PROOFS 68: tokens, the other -/
def MFr (B' B : mMem) : Prop := (∀ k : Nat, k ≠ 53 → B' k = B k) ∧ ∀ x : Int, (x < 7 ∨ 12 < x) → B' 53 x = B 53 x
theorem MFr_refl (B : mMem) : MFr B B := ⟨fun _ _ => rfl, fun _ _ => rfl⟩
theorem MFr_trans {A B C : mMem} (h : MFr A B) (g : MFr B C) : MFr A C := ⟨fun k q => (h.1 k q).trans (g.1 k q), fun x q => (h.2 x q).trans (g.2 x q)⟩
theorem MFr_u {B' B : mMem} (h : MFr B' B) {i v : Int} (hi : 7 ≤ i ∧ i ≤ 12) : MFr (mupd B' 53 i v) B :=
  MFr_trans ⟨fun k q => mupd_ne _ _ _ q, fun x q => by rw [mupd_at, fup_ne _ _ (by omega)]⟩ h
theorem M_fails (d : Nat) (B : mMem) (x : Int) : mN3 (d + 1) 119 [vr 53, vi x] B (fun B' => MFr B' B ∧ B' 53 9 = B 53 9 ∧ B' 53 10 = B 53 10 ∧ B' 53 11 = B 53 11 ∧ B' 53 12 = B 53 12 ∧ ((B 53 7 ≠ 0 ∧ B' 53 7 = B 53 7 ∧ B' 53 8 = B 53 8) ∨ (B 53 7 = 0 ∧ B' 53 7 = x ∧ B' 53 8 = B 53 10))) := by
  refine mN3_i ⟨by decide, Nat.le_of_ble_eq_true rfl⟩ (fun K hK => q_M_fails_0 hK x B ⟨fun q => rN_i ⟨MFr_refl B, rfl, rfl, rfl, rfl, Or.inl ⟨q, rfl, rfl⟩⟩, fun q => rN_i ⟨MFr_u (MFr_u (MFr_refl B) (by omega)) (by omega), ?_, ?_, ?_, ?_, Or.inr ⟨Decidable.not_not.mp q, ?_, ?_⟩⟩⟩)
  · rw [mupd_at, fup_ne _ _ (by decide), mupd_at, fup_ne _ _ (by decide)]
  · rw [mupd_at, fup_ne _ _ (by decide), mupd_at, fup_ne _ _ (by decide)]
  · rw [mupd_at, fup_ne _ _ (by decide), mupd_at, fup_ne _ _ (by decide)]
  · rw [mupd_at, fup_ne _ _ (by decide), mupd_at, fup_ne _ _ (by decide)]
  · rw [mupd_at, fup_ne _ _ (by decide), mupd_at, fup_at]
  · rw [mupd_at, fup_at, mupd_at, fup_ne _ _ (by decide)]
def TkM (B B' : mMem) (b : Int → Int) (L n : Int) : Prop := MFr B' B ∧ B' 53 10 = tS b L n ∧ ((tB b L n = 0 ∧ B' 53 7 = 0 ∧ B' 53 8 = B 53 8 ∧ B' 53 11 = tT b L n ∧ B' 53 9 = tE b L n ∧ (tT b L n = 2 → B' 53 12 = tV b L n)) ∨ (tB b L n ≠ 0 ∧ B' 53 7 = 1 ∧ B' 53 8 = tS b L n))
theorem M_step (d : Nat) {B : mMem} {b : Int → Int} {L n : Int} (hn : 0 ≤ n ∧ n ≤ L) (hL : L ≤ 160) (h5 : B 53 5 = L) (h56 : ∀ i : Int, 0 ≤ i → i < L → B 56 i = b i) (hb : ∀ i : Int, 0 ≤ i → i < L → 0 ≤ b i ∧ b i ≤ 127) (h7 : B 53 7 = 0) (h9 : B 53 9 = n) : mN3 (d + 2) 121 [vr 53] B (fun B' => TkM B B' b L n) := by
  refine mN3_i ⟨by decide, Nat.le_of_ble_eq_true rfl⟩ (fun K hK => q_M_step_0 hK B (br_t (by omega) ?_))
  have sr := rnF_rng b L p1 160 n hn.2
  have es : tS b L n = rnF b L p1 160 n := rfl
  unfold TkM at hK
  have eE : tE b L n = if tS b L n < L then (if p2 (b (tS b L n)) ≠ 0 then rnF b L p2 160 (tS b L n) else if p3 (b (tS b L n)) ≠ 0 then rnF b L p3 160 (tS b L n) else tS b L n + 1) else tS b L n := rfl
  have eT : tT b L n = if tS b L n < L then (if p2 (b (tS b L n)) ≠ 0 then 1 else if p3 (b (tS b L n)) ≠ 0 then 2 else 3) else 0 := rfl
  have eB : tB b L n = if tS b L n < L then (if p2 (b (tS b L n)) ≠ 0 then 0 else if p3 (b (tS b L n)) ≠ 0 then b2 (2 < rnF b L p3 160 (tS b L n) - tS b L n) else b2 (b (tS b L n) ≠ 59)) else 0 := rfl
  have eV : tV b L n = if tE b L n - tS b L n = 1 then b (tS b L n) - 48 else 10 * (b (tS b L n) - 48) + b (tS b L n + 1) - 48 := rfl
  rw [← es] at sr
  generalize hs : tS b L n = s at *
  generalize tT b L n = T at *
  generalize tB b L n = W at *
  generalize tV b L n = V at *
  generalize tE b L n = E at *
  have byt : ∀ (m : mMem) (i : Int), MFr m B → 0 ≤ i → mR3 (d + 1) 118 [vr 53, vi i] (S0, m) (some (vi (if L ≤ i then -4 else b i)), (S0, m)) := by
    intro m i f i0
    have m5 : m 53 5 = L := by rw [f.2 5 (by omega), h5]
    have g := R_byteAt d m i i0 (by omega)
    rw [m5] at g
    by_cases q : L ≤ i
    · rw [if_pos q] at g ⊢
      exact g
    · rw [if_neg q] at g ⊢
      have e : m 56 i = b i := by rw [f.1 56 (by decide), h56 i i0 (by omega)]
      rw [e] at g
      exact g
  have tail : ∀ m : mMem, MFr m B → m 53 9 = s → m 53 10 = s → m 53 7 = 0 → m 53 8 = B 53 8 → m 53 12 = 0 → s < L → p2 (b s) = 0 → p3 (b s) ≠ 0 → K 140 [(0, vr 53)] [] (S0, m) := by
    intro m f e9 e10 e7 e8 e12 q z1 z2
    rw [if_pos q, if_neg (fun w => w z1), if_pos z2] at eE eT eB
    have er := rnF_rng b L p3 160 s (by omega)
    have fin : ∀ m2 : mMem, MFr m2 B → m2 53 9 = E → m2 53 10 = s → m2 53 7 = 0 → m2 53 8 = B 53 8 → (E - s ≤ 2 → m2 53 12 = V) → ((w32 ((mupd m2 53 11 2 53 9) - (mupd m2 53 11 2 53 10)) ≤ 2 → rN (fun B' => MFr B' B ∧ B' 53 10 = s ∧ ((W = 0 ∧ B' 53 7 = 0 ∧ B' 53 8 = B 53 8 ∧ B' 53 11 = T ∧ B' 53 9 = E ∧ (T = 2 → B' 53 12 = V)) ∨ (W ≠ 0 ∧ B' 53 7 = 1 ∧ B' 53 8 = s))) none (S0, mupd m2 53 11 2)) ∧ (¬ (w32 ((mupd m2 53 11 2 53 9) - (mupd m2 53 11 2 53 10)) ≤ 2) → ∃ m5, mR3 (d + 1) 119 [vr 53, vi 1] (S0, mupd m2 53 11 2) (none, (S0, m5)) ∧ rN (fun B' => MFr B' B ∧ B' 53 10 = s ∧ ((W = 0 ∧ B' 53 7 = 0 ∧ B' 53 8 = B 53 8 ∧ B' 53 11 = T ∧ B' 53 9 = E ∧ (T = 2 → B' 53 12 = V)) ∨ (W ≠ 0 ∧ B' 53 7 = 1 ∧ B' 53 8 = s))) none (S0, m5))) := by
      intro m2 a1 a9 a10 a7 a8 a12
      have u : ∀ x : Int, x ≠ 11 → mupd m2 53 11 2 53 x = m2 53 x := fun x hx => by rw [mupd_at, fup_ne _ _ hx]
      have u11 : mupd m2 53 11 2 53 11 = 2 := by rw [mupd_at, fup_at]
      have uf : MFr (mupd m2 53 11 2) B := MFr_u a1 (by omega)
      rw [u 9 (by decide), u 10 (by decide), a9, a10, w32_s (z := E - s) (by omega) (by omega)]
      refine ⟨fun y => rN_i ⟨uf, by rw [u 10 (by decide), a10], Or.inl ⟨?_, by rw [u 7 (by decide), a7], by rw [u 8 (by decide), a8], by rw [u11, eT], by rw [u 9 (by decide), a9], fun _ => by rw [u 12 (by decide), a12 y]⟩⟩, fun y => cN (M_fails d _ 1) (fun m3 p => rN_i ⟨MFr_trans p.1 uf, by rw [p.2.2.1, u 10 (by decide), a10], Or.inr ⟨?_, ?_⟩⟩)⟩
      · rw [eB, b2_f (by omega)]
      · rw [eB, b2_t (by omega)]
        decide
      · rcases p.2.2.2.2.2 with ⟨w, _⟩ | ⟨_, w1, w2⟩
        · rw [u 7 (by decide)] at w
          exact absurd a7 w
        · exact ⟨w1, by rw [w2, u 10 (by decide), a10]⟩
    have l140 : ∀ (j : Nat) (i : Int), s ≤ i → i ≤ L → L ≤ i + j → rnF b L p3 j i = E → ∀ (m2 : mMem), MFr m2 B → m2 53 9 = i → m2 53 10 = s → m2 53 7 = 0 → m2 53 8 = B 53 8 → ((i = s ∧ m2 53 12 = 0) ∨ (i = s + 1 ∧ m2 53 12 = b s - 48) ∨ (i = s + 2 ∧ m2 53 12 = 10 * (b s - 48) + b (s + 1) - 48) ∨ s + 2 < i) → K 140 [(0, vr 53)] [] (S0, m2) := by
      intro j
      induction j with
      | zero =>
        intro i i0 i1 i2 ie m2 a1 a9 a10 a7 a8 a12
        have ie : i = E := ie
        have g := byt m2 i a1 (by omega)
        rw [if_pos (by omega)] at g
        refine q_M_step_140 hK m2 ?_
        rw [a9]
        refine ⟨_, _, g, _, _, R_in d m2 _ _ _, br_t (b2_f (by omega)) (fin m2 a1 (by omega) a10 a7 a8 (fun y => ?_))⟩
        rw [eV]
        rcases a12 with ⟨w1, w2⟩ | ⟨w1, w2⟩ | ⟨w1, w2⟩ | w1
        · exact absurd q (by omega)
        · rw [if_pos (by omega)]
          exact w2
        · rw [if_neg (by omega)]
          exact w2
        · exact absurd y (by omega)
      | succ j ih =>
        intro i i0 i1 i2 ie m2 a1 a9 a10 a7 a8 a12
        have g := byt m2 i a1 (by omega)
        rw [rnF_s] at ie
        have fn : ¬ (i < L ∧ p3 (b i) ≠ 0) → (E = i ∧ (E - s ≤ 2 → m2 53 12 = V)) := fun w => by
          rw [if_neg w] at ie
          refine ⟨by omega, fun y => ?_⟩
          rw [eV]
          rcases a12 with ⟨w1, w2⟩ | ⟨w1, w2⟩ | ⟨w1, w2⟩ | w1
          · exact absurd ⟨by omega, by rw [w1]; exact z2⟩ w
          · rw [if_pos (by omega)]
            exact w2
          · rw [if_neg (by omega)]
            exact w2
          · exact absurd y (by omega)
        refine q_M_step_140 hK m2 ?_
        rw [a9]
        by_cases il : L ≤ i
        · rw [if_pos il] at g
          have w := fn (by omega)
          exact ⟨_, _, g, _, _, R_in d m2 _ _ _, br_t (b2_f (by omega)) (fin m2 a1 (by omega) a10 a7 a8 w.2)⟩
        · rw [if_neg il] at g
          have bi := hb i (by omega) (by omega)
          refine ⟨_, _, g, _, _, R_in d m2 _ _ _, fun y => ?_, fun y => ?_⟩
          · have y : p3 (b i) = 0 := b2_f (b2_0.mp y)
            have w := fn (fun u => u.2 y)
            exact fin m2 a1 (by omega) a10 a7 a8 w.2
          · have y0 := b2_n0.mp y
            have y : p3 (b i) ≠ 0 := by
              unfold p3
              rw [b2_t y0]
              decide
            rw [if_pos ⟨by omega, y⟩] at ie
            rw [a9, a10, w32_s (z := i - s) (by omega) (by omega)]
            refine ⟨fun y2 => ?_, fun y2 => ⟨_, _, g, ?_⟩⟩
            · have u9 : mupd m2 53 12 (m2 53 12) 53 9 = i := by rw [mupd_at, fup_ne _ _ (by decide), a9]
              rw [u9, w32_s (z := i + 1) (by omega) (by omega)]
              refine ih (i + 1) (by omega) (by omega) (by omega) ie _ (MFr_u (MFr_u a1 (by omega)) (by omega)) ?_ ?_ ?_ ?_ ?_
              · rw [mupd_at, fup_at]
              · rw [mupd_at, fup_ne _ _ (by decide), mupd_at, fup_ne _ _ (by decide), a10]
              · rw [mupd_at, fup_ne _ _ (by decide), mupd_at, fup_ne _ _ (by decide), a7]
              · rw [mupd_at, fup_ne _ _ (by decide), mupd_at, fup_ne _ _ (by decide), a8]
              · exact Or.inr (Or.inr (Or.inr (by omega)))
            · have u9 : ∀ v, mupd m2 53 12 v 53 9 = i := fun v => by rw [mupd_at, fup_ne _ _ (by decide), a9]
              rw [u9, w32_s (z := i + 1) (by omega) (by omega)]
              refine ih (i + 1) (by omega) (by omega) (by omega) ie _ (MFr_u (MFr_u a1 (by omega)) (by omega)) ?_ ?_ ?_ ?_ ?_
              · rw [mupd_at, fup_at]
              · rw [mupd_at, fup_ne _ _ (by decide), mupd_at, fup_ne _ _ (by decide), a10]
              · rw [mupd_at, fup_ne _ _ (by decide), mupd_at, fup_ne _ _ (by decide), a7]
              · rw [mupd_at, fup_ne _ _ (by decide), mupd_at, fup_ne _ _ (by decide), a8]
              · rw [mupd_at, fup_ne _ _ (by decide), mupd_at, fup_at]
                rcases a12 with ⟨w1, v2⟩ | ⟨w1, v2⟩ | ⟨w1, v2⟩ | w1
                · refine Or.inr (Or.inl ⟨by omega, ?_⟩)
                  rw [v2, w1]
                  rw [w1] at bi
                  rw [w32_s (z := 10 * 0) (by decide) (by decide), w32_s (z := 10 * 0 + b s) (by omega) (by omega), w32_s (by omega) (by omega)]
                  omega
                · refine Or.inr (Or.inr (Or.inl ⟨by omega, ?_⟩))
                  have bs3 := b2_n0.mp z2
                  rw [v2, w1]
                  rw [w1] at bi
                  rw [w32_s (z := 10 * (b s - 48)) (by omega) (by omega), w32_s (z := 10 * (b s - 48) + b (s + 1)) (by omega) (by omega), w32_s (by omega) (by omega)]
                · exact absurd y2 (by omega)
                · exact absurd y2 (by omega)
    exact l140 160 s (by omega) (by omega) (by omega) eE.symm m f e9 e10 e7 e8 (Or.inl ⟨rfl, e12⟩)
  have name : ∀ m : mMem, MFr m B → m 53 9 = s → m 53 10 = s → m 53 7 = 0 → m 53 8 = B 53 8 → s < L → p2 (b s) ≠ 0 → K 84 [(0, vr 53)] [] (S0, m) := by
    intro m f e9 e10 e7 e8 q z1
    rw [if_pos q, if_pos z1] at eE eT eB
    have er := rnF_rng b L p2 160 s (by omega)
    have fin : ∀ m2 : mMem, MFr m2 B → m2 53 9 = E → m2 53 10 = s → m2 53 7 = 0 → m2 53 8 = B 53 8 → rN (fun B' => MFr B' B ∧ B' 53 10 = s ∧ ((W = 0 ∧ B' 53 7 = 0 ∧ B' 53 8 = B 53 8 ∧ B' 53 11 = T ∧ B' 53 9 = E ∧ (T = 2 → B' 53 12 = V)) ∨ (W ≠ 0 ∧ B' 53 7 = 1 ∧ B' 53 8 = s))) none (S0, mupd m2 53 11 1) := by
      intro m2 a1 a9 a10 a7 a8
      have u : ∀ x : Int, x ≠ 11 → mupd m2 53 11 1 53 x = m2 53 x := fun x hx => by rw [mupd_at, fup_ne _ _ hx]
      exact rN_i ⟨MFr_u a1 (by omega), by rw [u 10 (by decide), a10], Or.inl ⟨eB, by rw [u 7 (by decide), a7], by rw [u 8 (by decide), a8], by rw [mupd_at, fup_at, eT], by rw [u 9 (by decide), a9], fun w => absurd w (by omega)⟩⟩
    have l84 : ∀ (j : Nat) (i : Int), s ≤ i → i ≤ L → L ≤ i + j → rnF b L p2 j i = E → ∀ (m2 : mMem), MFr m2 B → m2 53 9 = i → m2 53 10 = s → m2 53 7 = 0 → m2 53 8 = B 53 8 → K 84 [(0, vr 53)] [] (S0, m2) := by
      intro j
      induction j with
      | zero =>
        intro i i0 i1 i2 ie m2 a1 a9 a10 a7 a8
        have ie : i = E := ie
        have g := byt m2 i a1 (by omega)
        rw [if_pos (by omega)] at g
        refine q_M_step_84 hK m2 ?_
        rw [a9]
        exact ⟨_, _, g, _, _, R_in d m2 _ _ _, br_t (b2_f (by omega)) (fin m2 a1 (by omega) a10 a7 a8)⟩
      | succ j ih =>
        intro i i0 i1 i2 ie m2 a1 a9 a10 a7 a8
        have g := byt m2 i a1 (by omega)
        rw [rnF_s] at ie
        refine q_M_step_84 hK m2 ?_
        rw [a9]
        by_cases il : L ≤ i
        · rw [if_pos il] at g
          rw [if_neg (by omega)] at ie
          exact ⟨_, _, g, _, _, R_in d m2 _ _ _, br_t (b2_f (by omega)) (fin m2 a1 (by omega) a10 a7 a8)⟩
        · rw [if_neg il] at g
          refine ⟨_, _, g, _, _, R_in d m2 _ _ _, fun y => ?_, fun y => ?_⟩
          · have y : p2 (b i) = 0 := b2_f (b2_0.mp y)
            rw [if_neg (fun u => u.2 y)] at ie
            exact fin m2 a1 (by omega) a10 a7 a8
          · have y : p2 (b i) ≠ 0 := by
              unfold p2
              rw [b2_t (b2_n0.mp y)]
              decide
            rw [if_pos ⟨by omega, y⟩] at ie
            rw [a9, w32_s (z := i + 1) (by omega) (by omega)]
            refine ih (i + 1) (by omega) (by omega) (by omega) ie _ (MFr_u a1 (by omega)) ?_ ?_ ?_ ?_
            · rw [mupd_at, fup_at]
            · rw [mupd_at, fup_ne _ _ (by decide), a10]
            · rw [mupd_at, fup_ne _ _ (by decide), a7]
            · rw [mupd_at, fup_ne _ _ (by decide), a8]
    exact l84 160 s (by omega) (by omega) (by omega) eE.symm m f e9 e10 e7 e8
  have found : ∀ m : mMem, MFr m B → m 53 9 = s → m 53 7 = 0 → m 53 8 = B 53 8 → ¬ (s < L ∧ p1 (b s) ≠ 0) → K 8 [(0, vr 53)] [] (S0, m) := by
    intro m f e9 e7 e8 ns
    have g := byt m s f (by omega)
    refine q_M_step_8 hK m ?_
    rw [e9]
    have c32 : (if L ≤ s then -4 else b s) ≠ 32 := by
      by_cases q : L ≤ s
      · rw [if_pos q]
        decide
      · rw [if_neg q]
        intro w
        exact ns ⟨by omega, by unfold p1; rw [b2_t w]; decide⟩
    refine ⟨_, _, g, br_t c32 ?_⟩
    rw [e9]
    have v9 : mupd m 53 10 s 53 9 = s := by rw [mupd_at, fup_ne _ _ (by decide), e9]
    have v10 : mupd m 53 10 s 53 10 = s := by rw [mupd_at, fup_at]
    have v7 : mupd m 53 10 s 53 7 = 0 := by rw [mupd_at, fup_ne _ _ (by decide), e7]
    have v8 : mupd m 53 10 s 53 8 = B 53 8 := by rw [mupd_at, fup_ne _ _ (by decide), e8]
    have vf : MFr (mupd m 53 10 s) B := MFr_u f (by omega)
    rw [v9]
    generalize mupd m 53 10 s = m1 at v9 v10 v7 v8 vf
    have g1 := byt m1 s vf (by omega)
    have u : ∀ x : Int, x ≠ 12 → mupd m1 53 12 0 53 x = m1 53 x := fun x hx => by rw [mupd_at, fup_ne _ _ hx]
    have u12 : mupd m1 53 12 0 53 12 = 0 := by rw [mupd_at, fup_at]
    have uf : MFr (mupd m1 53 12 0) B := MFr_u vf (by omega)
    by_cases q : L ≤ s
    · rw [if_pos q] at g1
      rw [if_neg (by omega)] at eE eT eB
      refine ⟨_, _, g1, br_f (fun w => w rfl) (rN_i ⟨MFr_u uf (by omega), ?_, Or.inl ⟨eB, ?_, ?_, ?_, ?_, fun w => absurd w (by omega)⟩⟩)⟩
      · rw [mupd_at, fup_ne _ _ (by decide), u 10 (by decide), v10]
      · rw [mupd_at, fup_ne _ _ (by decide), u 7 (by decide), v7]
      · rw [mupd_at, fup_ne _ _ (by decide), u 8 (by decide), v8]
      · rw [mupd_at, fup_at, eT]
      · rw [mupd_at, fup_ne _ _ (by decide), u 9 (by decide), v9, eE]
    · rw [if_neg q] at g1
      have bs := hb s (by omega) (by omega)
      refine ⟨_, _, g1, br_t (by omega) ⟨_, _, R_in d _ _ _ _, fun y => ⟨_, _, R_in d _ _ _ _, fun y2 => ?_, fun y2 => ?_⟩, fun y => ?_⟩⟩
      · have y : p2 (b s) = 0 := b2_f (b2_0.mp y)
        have y2 : p3 (b s) = 0 := b2_f (b2_0.mp y2)
        rw [if_pos (by omega), if_neg (fun w => w y), if_neg (fun w => w y2)] at eE eT eB
        have t9 : mupd (mupd m1 53 12 0) 53 11 3 53 9 = s := by rw [mupd_at, fup_ne _ _ (by decide), u 9 (by decide), v9]
        rw [t9, w32_s (z := s + 1) (by omega) (by omega)]
        have w : ∀ x : Int, x ≠ 9 → x ≠ 11 → x ≠ 12 → mupd (mupd (mupd m1 53 12 0) 53 11 3) 53 9 (s + 1) 53 x = m1 53 x := fun x h9 h11 h12 => by rw [mupd_at, fup_ne _ _ h9, mupd_at, fup_ne _ _ h11, u x h12]
        have w9 : mupd (mupd (mupd m1 53 12 0) 53 11 3) 53 9 (s + 1) 53 9 = s + 1 := by rw [mupd_at, fup_at]
        have w11 : mupd (mupd (mupd m1 53 12 0) 53 11 3) 53 9 (s + 1) 53 11 = 3 := by rw [mupd_at, fup_ne _ _ (by decide), mupd_at, fup_at]
        have wf : MFr (mupd (mupd (mupd m1 53 12 0) 53 11 3) 53 9 (s + 1)) B := MFr_u (MFr_u uf (by omega)) (by omega)
        refine ⟨fun y3 => rN_i ⟨wf, by rw [w 10 (by decide) (by decide) (by decide), v10], Or.inl ⟨?_, by rw [w 7 (by decide) (by decide) (by decide), v7], by rw [w 8 (by decide) (by decide) (by decide), v8], by rw [w11, eT], by rw [w9, eE], fun z => absurd z (by omega)⟩⟩, fun y3 => cN (M_fails d _ 1) (fun m3 p => rN_i ⟨MFr_trans p.1 wf, by rw [p.2.2.1, w 10 (by decide) (by decide) (by decide), v10], Or.inr ⟨?_, ?_⟩⟩)⟩
        · rw [eB, b2_f (fun z => z y3)]
        · rw [eB, b2_t y3]
          decide
        · rcases p.2.2.2.2.2 with ⟨z, _⟩ | ⟨_, z1, z2⟩
          · rw [w 7 (by decide) (by decide) (by decide)] at z
            exact absurd v7 z
          · exact ⟨z1, by rw [z2, w 10 (by decide) (by decide) (by decide), v10]⟩
      · have y : p2 (b s) = 0 := b2_f (b2_0.mp y)
        have y2 : p3 (b s) ≠ 0 := by
          unfold p3
          rw [b2_t (b2_n0.mp y2)]
          decide
        exact tail _ uf (by rw [u 9 (by decide), v9]) (by rw [u 10 (by decide), v10]) (by rw [u 7 (by decide), v7]) (by rw [u 8 (by decide), v8]) u12 (by omega) y y2
      · have y : p2 (b s) ≠ 0 := by
          unfold p2
          rw [b2_t (b2_n0.mp y)]
          decide
        exact name _ uf (by rw [u 9 (by decide), v9]) (by rw [u 10 (by decide), v10]) (by rw [u 7 (by decide), v7]) (by rw [u 8 (by decide), v8]) (by omega) y
  have l8 : ∀ (j : Nat) (i : Int), n ≤ i → i ≤ L → L ≤ i + j → rnF b L p1 j i = s → ∀ (m2 : mMem), MFr m2 B → m2 53 9 = i → m2 53 7 = 0 → m2 53 8 = B 53 8 → K 8 [(0, vr 53)] [] (S0, m2) := by
    intro j
    induction j with
    | zero =>
      intro i i0 i1 i2 ie m2 a1 a9 a7 a8
      have ie : i = s := ie
      exact found m2 a1 (by omega) a7 a8 (by omega)
    | succ j ih =>
      intro i i0 i1 i2 ie m2 a1 a9 a7 a8
      rw [rnF_s] at ie
      by_cases w : i < L ∧ p1 (b i) ≠ 0
      · rw [if_pos w] at ie
        have g := byt m2 i a1 (by omega)
        rw [if_neg (by omega)] at g
        have w2 := b2_n0.mp w.2
        refine q_M_step_8 hK m2 ?_
        rw [a9]
        refine ⟨_, _, g, br_f (fun z => z w2) ?_⟩
        rw [a9, w32_s (z := i + 1) (by omega) (by omega)]
        refine ih (i + 1) (by omega) (by omega) (by omega) ie _ (MFr_u a1 (by omega)) ?_ ?_ ?_
        · rw [mupd_at, fup_at]
        · rw [mupd_at, fup_ne _ _ (by decide), a7]
        · rw [mupd_at, fup_ne _ _ (by decide), a8]
      · rw [if_neg w] at ie
        exact found m2 a1 (by omega) a7 a8 (by rw [← ie]; exact w)
  exact l8 160 n (Int.le_refl _) hn.2 (by omega) es.symm B (MFr_refl B) h9 h7 rfl
end
section
/-! PURE PROOFS 69: numbers and stops -/
def nuK (b : Int → Int) (L lo hi n : Int) : Int := if tB b L n ≠ 0 then 1 else if tT b L n ≠ 2 then 2 else if tV b L n < lo ∨ hi < tV b L n then 3 else 0
def stK (b : Int → Int) (L n : Int) : Int := if tB b L n ≠ 0 then 1 else if tT b L n ≠ 3 then 2 else 0
/-- the tape as the class has it -/
def TpL (A : mMem) (b : Int → Int) (L : Int) : Prop := A 36 = b ∧ A 35 1 = L ∧ (0 ≤ L ∧ L ≤ 160) ∧ ∀ i : Int, 0 ≤ i → i < L → 0 ≤ b i ∧ b i ≤ 127
theorem TpL_fr {A' A : mMem} {b : Int → Int} {L : Int} (h : TpL A b L) (f : TFr A' A) : TpL A' b L := ⟨by rw [f.1 36 (by decide), h.1], by rw [f.2.1, h.2.1], h.2.2⟩
theorem tE_rng {b : Int → Int} {L n : Int} (hn : 0 ≤ n ∧ n ≤ L) : (n ≤ tS b L n ∧ tS b L n ≤ L) ∧ (tS b L n ≤ tE b L n ∧ tE b L n ≤ L) ∧ (tT b L n ≠ 0 → tS b L n < tE b L n) := by
  have sr : n ≤ tS b L n ∧ tS b L n ≤ L := rnF_rng b L p1 160 n hn.2
  have e1 := rnF_rng b L p2 160 (tS b L n) sr.2
  have e2 := rnF_rng b L p3 160 (tS b L n) sr.2
  have eE : tE b L n = if tS b L n < L then (if p2 (b (tS b L n)) ≠ 0 then rnF b L p2 160 (tS b L n) else if p3 (b (tS b L n)) ≠ 0 then rnF b L p3 160 (tS b L n) else tS b L n + 1) else tS b L n := rfl
  have eT : tT b L n = if tS b L n < L then (if p2 (b (tS b L n)) ≠ 0 then 1 else if p3 (b (tS b L n)) ≠ 0 then 2 else 3) else 0 := rfl
  have s2 : rnF b L p2 160 (tS b L n) = if tS b L n < L ∧ p2 (b (tS b L n)) ≠ 0 then rnF b L p2 159 (tS b L n + 1) else tS b L n := rnF_s b L p2 159 _
  have s3 : rnF b L p3 160 (tS b L n) = if tS b L n < L ∧ p3 (b (tS b L n)) ≠ 0 then rnF b L p3 159 (tS b L n + 1) else tS b L n := rnF_s b L p3 159 _
  generalize tS b L n = s at *
  generalize tE b L n = E at *
  generalize tT b L n = T at *
  by_cases q : s < L
  · rw [if_pos q] at eE eT
    by_cases z : p2 (b s) ≠ 0
    · rw [if_pos z] at eE eT
      rw [if_pos ⟨q, z⟩] at s2
      have r := rnF_rng b L p2 159 (s + 1) (by omega)
      refine ⟨sr, by omega, fun _ => by omega⟩
    · rw [if_neg z] at eE eT
      by_cases z2 : p3 (b s) ≠ 0
      · rw [if_pos z2] at eE eT
        rw [if_pos ⟨q, z2⟩] at s3
        have r := rnF_rng b L p3 159 (s + 1) (by omega)
        refine ⟨sr, by omega, fun _ => by omega⟩
      · rw [if_neg z2] at eE eT
        refine ⟨sr, by omega, fun _ => by omega⟩
  · rw [if_neg q] at eE eT
    refine ⟨sr, by omega, fun w => absurd eT w⟩
theorem tV_rng {b : Int → Int} {L n : Int} (hb : ∀ i : Int, 0 ≤ i → i < L → 0 ≤ b i ∧ b i ≤ 127) (hn : 0 ≤ n ∧ n ≤ L) (hB : tB b L n = 0) (hT : tT b L n = 2) : 0 ≤ tV b L n ∧ tV b L n ≤ 99 := by
  have r := tE_rng (b := b) hn
  have sr := r.1
  have eE : tE b L n = if tS b L n < L then (if p2 (b (tS b L n)) ≠ 0 then rnF b L p2 160 (tS b L n) else if p3 (b (tS b L n)) ≠ 0 then rnF b L p3 160 (tS b L n) else tS b L n + 1) else tS b L n := rfl
  have eT : tT b L n = if tS b L n < L then (if p2 (b (tS b L n)) ≠ 0 then 1 else if p3 (b (tS b L n)) ≠ 0 then 2 else 3) else 0 := rfl
  have eB : tB b L n = if tS b L n < L then (if p2 (b (tS b L n)) ≠ 0 then 0 else if p3 (b (tS b L n)) ≠ 0 then b2 (2 < rnF b L p3 160 (tS b L n) - tS b L n) else b2 (b (tS b L n) ≠ 59)) else 0 := rfl
  have eV : tV b L n = if tE b L n - tS b L n = 1 then b (tS b L n) - 48 else 10 * (b (tS b L n) - 48) + b (tS b L n + 1) - 48 := rfl
  have s3 : rnF b L p3 160 (tS b L n) = if tS b L n < L ∧ p3 (b (tS b L n)) ≠ 0 then rnF b L p3 159 (tS b L n + 1) else tS b L n := rnF_s b L p3 159 _
  have s4 : rnF b L p3 159 (tS b L n + 1) = if tS b L n + 1 < L ∧ p3 (b (tS b L n + 1)) ≠ 0 then rnF b L p3 158 (tS b L n + 1 + 1) else tS b L n + 1 := rnF_s b L p3 158 _
  generalize tS b L n = s at *
  generalize tE b L n = E at *
  generalize tV b L n = V at *
  by_cases q : s < L
  · rw [if_pos q] at eE eT eB
    by_cases z : p2 (b s) ≠ 0
    · rw [if_pos z] at eT
      exact absurd hT (by omega)
    · rw [if_neg z] at eE eT eB
      by_cases z2 : p3 (b s) ≠ 0
      · rw [if_pos z2] at eE eT eB
        have f0 := b2_n0.mp z2
        rw [hB] at eB
        have f1 := b2_0.mp eB.symm
        rw [if_pos ⟨q, z2⟩] at s3
        by_cases w : E - s = 1
        · rw [if_pos w] at eV
          omega
        · rw [if_neg w] at eV
          by_cases u : s + 1 < L ∧ p3 (b (s + 1)) ≠ 0
          · have f2 := b2_n0.mp u.2
            omega
          · rw [if_neg u] at s4
            exact absurd w (by omega)
      · rw [if_neg z2] at eT
        exact absurd hT (by omega)
  · rw [if_neg q] at eT
    exact absurd hT (by omega)
theorem T_num (d : Nat) {A : mMem} {b : Int → Int} {L n lo hi : Int} (tp : TpL A b L) (hn : 0 ≤ n ∧ n ≤ L) (h2 : A 35 2 = 0) (h4 : A 35 4 = n) : mI3 (d + 3) 42 [vr 35, vi lo, vi hi] A (fun v A' => TFr A' A ∧ A' 35 6 = tS b L n ∧ ((nuK b L lo hi n = 0 ∧ v = tV b L n ∧ (lo ≤ v ∧ v ≤ hi) ∧ A' 35 2 = 0 ∧ A' 35 3 = A 35 3 ∧ A' 35 4 = tE b L n) ∨ (nuK b L lo hi n ≠ 0 ∧ v = lo ∧ A' 35 2 = nuK b L lo hi n ∧ A' 35 3 = tS b L n))) := by
  obtain ⟨t1, t2, t3, t4⟩ := tp
  have tk := T_token d (A := A) (n := n) (by rw [t2]; exact hn) (by omega) (by rw [t1, t2]; exact t4) h2 h4
  refine mI3_i ⟨by decide, Nat.le_of_ble_eq_true rfl⟩ (fun K hK => q_T_takeNumber_0 hK lo hi A (cN tk (fun A1 p => ?_)))
  unfold TkL at p
  rw [t1, t2] at p
  obtain ⟨f, e6, p⟩ := p
  have eK : nuK b L lo hi n = if tB b L n ≠ 0 then 1 else if tT b L n ≠ 2 then 2 else if tV b L n < lo ∨ hi < tV b L n then 3 else 0 := rfl
  generalize nuK b L lo hi n = k at *
  rcases p with ⟨b0, e2, e3, e5, e4, e7⟩ | ⟨b1, e2, e3⟩
  · rw [if_neg (fun w => w b0)] at eK
    refine br_f (fun w => w e2) ⟨fun q => ?_, fun q => cN (T_fail (d + 1) A1 2) (fun A2 p2 => ?_)⟩
    · rw [e5] at q
      rw [if_neg (fun w => w q)] at eK
      have e7 := e7 q
      have k43 : (tV b L n < lo ∨ hi < tV b L n) → K 43 [(0, vr 35), (1, vi lo)] [] (S0, A1) := by
        intro w
        rw [if_pos w] at eK
        refine q_T_takeNumber_43 hK lo A1 (cN (T_fail (d + 1) A1 3) (fun A2 p2 => ?_))
        rcases p2.2.2.2.2.2 with ⟨u, _⟩ | ⟨_, u1, u2⟩
        · exact absurd e2 u
        · exact br_t (by rw [u1]; decide) (rI_i ⟨TFr_trans p2.1 f, by rw [p2.2.2.2.1, e6], Or.inr ⟨by omega, rfl, by omega, by rw [u2, e6]⟩⟩)
      rw [e7]
      refine ⟨fun w => k43 (Or.inl w), fun w => ⟨fun w2 => br_f (fun z => z e2) (rI_i ?_), fun w2 => k43 (Or.inr (by omega))⟩⟩
      rw [if_neg (by omega)] at eK
      exact ⟨f, e6, Or.inl ⟨eK, rfl, by omega, e2, e3, e4⟩⟩
    · rw [e5] at q
      rw [if_pos q] at eK
      rcases p2.2.2.2.2.2 with ⟨u, _⟩ | ⟨_, u1, u2⟩
      · exact absurd e2 u
      · exact br_t (by rw [u1]; decide) (rI_i ⟨TFr_trans p2.1 f, by rw [p2.2.2.2.1, e6], Or.inr ⟨by omega, rfl, by omega, by rw [u2, e6]⟩⟩)
  · rw [if_pos b1] at eK
    exact br_t (by rw [e2]; decide) (br_t (by rw [e2]; decide) (rI_i ⟨f, e6, Or.inr ⟨by omega, rfl, by omega, e3⟩⟩))
theorem T_tok0 (d : Nat) {A : mMem} (h2 : A 35 2 ≠ 0) : mR3 (d + 2) 33 [vr 35] (S0, A) (none, (S0, A)) := ⟨⟨by decide, Nat.le_of_ble_eq_true rfl⟩, fun K hK => q_T_readToken_0 hK A (br_f h2 (mret_n rfl))⟩
theorem T_num0 (d : Nat) {A : mMem} {lo hi : Int} (h2 : A 35 2 ≠ 0) : mR3 (d + 3) 42 [vr 35, vi lo, vi hi] (S0, A) (some (vi lo), (S0, A)) := ⟨⟨by decide, Nat.le_of_ble_eq_true rfl⟩, fun K hK => q_T_takeNumber_0 hK lo hi A ⟨_, T_tok0 d h2, br_t h2 (br_t h2 (mret_i rfl rfl))⟩⟩
theorem T_stop0 (d : Nat) {A : mMem} (h2 : A 35 2 ≠ 0) : mR3 (d + 3) 43 [vr 35] (S0, A) (none, (S0, A)) := ⟨⟨by decide, Nat.le_of_ble_eq_true rfl⟩, fun K hK => q_T_takeStop_0 hK A ⟨_, T_tok0 d h2, br_t h2 (mret_n rfl)⟩⟩
theorem T_stop (d : Nat) {A : mMem} {b : Int → Int} {L n : Int} (tp : TpL A b L) (hn : 0 ≤ n ∧ n ≤ L) (h2 : A 35 2 = 0) (h4 : A 35 4 = n) : mN3 (d + 3) 43 [vr 35] A (fun A' => TFr A' A ∧ ((stK b L n = 0 ∧ A' 35 2 = 0 ∧ A' 35 3 = A 35 3 ∧ A' 35 4 = tE b L n) ∨ (stK b L n ≠ 0 ∧ A' 35 2 = stK b L n ∧ A' 35 3 = tS b L n))) := by
  obtain ⟨t1, t2, t3, t4⟩ := tp
  have tk := T_token d (A := A) (n := n) (by rw [t2]; exact hn) (by omega) (by rw [t1, t2]; exact t4) h2 h4
  refine mN3_i ⟨by decide, Nat.le_of_ble_eq_true rfl⟩ (fun K hK => q_T_takeStop_0 hK A (cN tk (fun A1 p => ?_)))
  unfold TkL at p
  rw [t1, t2] at p
  obtain ⟨f, e6, p⟩ := p
  unfold stK
  rcases p with ⟨b0, e2, e3, e5, e4, e7⟩ | ⟨b1, e2, e3⟩
  · rw [if_neg (fun w => w b0)]
    refine br_f (fun w => w e2) ⟨fun q => ?_, fun q => cN (T_fail (d + 1) A1 2) (fun A2 p2 => ?_)⟩
    · rw [e5] at q
      rw [if_neg (fun w => w q)]
      exact rN_i ⟨f, Or.inl ⟨rfl, e2, e3, e4⟩⟩
    · rw [e5] at q
      rw [if_pos q]
      rcases p2.2.2.2.2.2 with ⟨u, _⟩ | ⟨_, u1, u2⟩
      · exact absurd e2 u
      · exact rN_i ⟨TFr_trans p2.1 f, Or.inr ⟨by decide, u1, by rw [u2, e6]⟩⟩
  · rw [if_pos b1]
    exact br_t (by rw [e2]; decide) (rN_i ⟨f, Or.inr ⟨by decide, e2, e3⟩⟩)
end
section
/-! PURE PROOFS 70: numbers, the other -/
def TpM (B : mMem) (b : Int → Int) (L : Int) : Prop := B 53 5 = L ∧ (∀ i : Int, 0 ≤ i → i < L → B 56 i = b i) ∧ (0 ≤ L ∧ L ≤ 160) ∧ ∀ i : Int, 0 ≤ i → i < L → 0 ≤ b i ∧ b i ≤ 127
theorem TpM_fr {B' B : mMem} {b : Int → Int} {L : Int} (h : TpM B b L) (f : MFr B' B) : TpM B' b L := ⟨by rw [f.2 5 (by omega), h.1], fun i a c => by rw [f.1 56 (by decide), h.2.1 i a c], h.2.2⟩
/-- the token at n is the one ahead -/
def LkM (B : mMem) (b : Int → Int) (L n : Int) : Prop := B 53 10 = tS b L n ∧ ((tB b L n = 0 ∧ B 53 7 = 0 ∧ B 53 11 = tT b L n ∧ B 53 9 = tE b L n ∧ (tT b L n = 2 → B 53 12 = tV b L n)) ∨ (tB b L n ≠ 0 ∧ B 53 7 = 1 ∧ B 53 8 = tS b L n))
theorem M_next (d : Nat) {B : mMem} {b : Int → Int} {L n : Int} (tp : TpM B b L) (hn : 0 ≤ n ∧ n ≤ L) (h7 : B 53 7 = 0) (h9 : B 53 9 = n) : mN3 (d + 2) 121 [vr 53] B (fun B' => MFr B' B ∧ LkM B' b L n) := by
  obtain ⟨t1, t2, t3, t4⟩ := tp
  obtain ⟨B', p, r⟩ := M_step d hn (by omega) t1 t2 t4 h7 h9
  refine ⟨B', ⟨p.1, p.2.1, ?_⟩, r⟩
  rcases p.2.2 with ⟨a, b, c, e⟩ | w
  · exact Or.inl ⟨a, b, e⟩
  · exact Or.inr w
theorem M_next0 (d : Nat) {B : mMem} (h7 : 0 < B 53 7) : mR3 (d + 2) 121 [vr 53] (S0, B) (none, (S0, B)) := ⟨⟨by decide, Nat.le_of_ble_eq_true rfl⟩, fun K hK => q_M_step_0 hK B (br_f (by omega) (mret_n rfl))⟩
def otK (b : Int → Int) (L lo hi so n : Int) : Int := if nuK b L lo hi n ≠ 0 then nuK b L lo hi n else if so ≠ 0 ∧ jand (jshr so (tV b L n)) 1 = 1 then 4 else 0
theorem M_other0 (d : Nat) {B : mMem} {lo hi so : Int} (h7 : 0 < B 53 7) : mR3 (d + 3) 122 [vr 53, vi lo, vi hi, vi so] (S0, B) (some (vi lo), (S0, B)) :=
  ⟨⟨by decide, Nat.le_of_ble_eq_true rfl⟩, fun K hK => q_M_other_0 hK lo hi so B (br_t (by omega) (q_M_other_20 hK lo hi so B (br_t (by omega) (q_M_other_47 hK lo so B (br_t (by omega) (q_M_other_75 hK lo B (br_t (by omega) ⟨_, M_next0 d h7, mret_i rfl rfl⟩)))))))⟩
theorem M_other (d : Nat) {B : mMem} {b : Int → Int} {L n lo hi so : Int} (tp : TpM B b L) (hn : 0 ≤ n ∧ n ≤ L) (lk : LkM B b L n) : mI3 (d + 3) 122 [vr 53, vi lo, vi hi, vi so] B (fun v B' => MFr B' B ∧ ((otK b L lo hi so n = 0 ∧ v = tV b L n ∧ (lo ≤ v ∧ v ≤ hi) ∧ LkM B' b L (tE b L n)) ∨ (otK b L lo hi so n ≠ 0 ∧ v = lo ∧ B' 53 7 = otK b L lo hi so n ∧ B' 53 8 = tS b L n))) := by
  have er := (tE_rng (b := b) hn).2.1
  have sr := (tE_rng (b := b) hn).1
  obtain ⟨e10, lk⟩ := lk
  have eO : otK b L lo hi so n = if nuK b L lo hi n ≠ 0 then nuK b L lo hi n else if so ≠ 0 ∧ jand (jshr so (tV b L n)) 1 = 1 then 4 else 0 := rfl
  have eK : nuK b L lo hi n = if tB b L n ≠ 0 then 1 else if tT b L n ≠ 2 then 2 else if tV b L n < lo ∨ hi < tV b L n then 3 else 0 := rfl
  refine mI3_i ⟨by decide, Nat.le_of_ble_eq_true rfl⟩ (fun K hK => ?_)
  generalize otK b L lo hi so n = O at *
  generalize nuK b L lo hi n = k at *
  have bad : ∀ m : mMem, MFr m B → m 53 7 = O → O ≠ 0 → 0 < O → m 53 8 = tS b L n → K 75 [(0, vr 53), (1, vi lo)] [] (S0, m) := fun m f e7 o0 o1 e8 => q_M_other_75 hK lo m (br_t (by omega) ⟨_, M_next0 d (by omega), rI_i ⟨f, Or.inr ⟨o0, rfl, e7, e8⟩⟩⟩)
  have bad47 : ∀ m : mMem, MFr m B → m 53 7 = O → O ≠ 0 → 0 < O → m 53 8 = tS b L n → K 47 [(0, vr 53), (1, vi lo), (3, vi so)] [] (S0, m) := fun m f e7 o0 o1 e8 => q_M_other_47 hK lo so m (br_t (by omega) (bad m f e7 o0 o1 e8))
  have bad20 : ∀ m : mMem, MFr m B → m 53 7 = O → O ≠ 0 → 0 < O → m 53 8 = tS b L n → K 20 [(0, vr 53), (1, vi lo), (2, vi hi), (3, vi so)] [] (S0, m) := fun m f e7 o0 o1 e8 => q_M_other_20 hK lo hi so m (br_t (by omega) (bad47 m f e7 o0 o1 e8))
  rcases lk with ⟨b0, e7, e11, e9, e12⟩ | ⟨b1, e7, e8⟩
  · rw [if_neg (fun w => w b0)] at eK
    refine q_M_other_0 hK lo hi so B (br_f (fun w => w e7) ⟨fun q => ?_, fun q => cN (M_fails (d + 1) B 2) (fun m p => ?_)⟩)
    · rw [e11] at q
      rw [if_neg (fun w => w q)] at eK
      have e12 := e12 q
      refine q_M_other_20 hK lo hi so B (br_f (fun w => w e7) ?_)
      rw [e12]
      refine ⟨_, _, R_in (d + 1) B _ _ _, fun y => ?_, fun y => cN (M_fails (d + 1) B 3) (fun m p => ?_)⟩
      · have y := b2_n0.mp y
        rw [if_neg (by omega)] at eK
        rw [if_neg (fun w => w eK)] at eO
        have good : (¬ (so ≠ 0 ∧ jand (jshr so (tV b L n)) 1 = 1)) → K 75 [(0, vr 53), (1, vi lo)] [] (S0, B) := by
          intro w
          rw [if_neg w] at eO
          refine q_M_other_75 hK lo B (br_f (fun z => z e7) (cN (M_next d (tp := tp) (n := tE b L n) (by omega) e7 e9) (fun m p => ?_)))
          rw [e12]
          exact rI_i ⟨p.1, Or.inl ⟨eO, rfl, y, p.2⟩⟩
        refine q_M_other_47 hK lo so B (br_f (fun w => w e7) ⟨fun w => good (fun z => z.1 w), fun w => ?_⟩)
        rw [e12]
        refine ⟨fun w2 => good (fun z => w2 z.2), fun w2 => cN (M_fails (d + 1) B 4) (fun m p => ?_)⟩
        rw [if_pos ⟨w, Decidable.not_not.mp w2⟩] at eO
        rcases p.2.2.2.2.2 with ⟨u, _⟩ | ⟨_, u1, u2⟩
        · exact absurd e7 u
        · exact bad m p.1 (by omega) (by omega) (by omega) (by rw [u2, e10])
      · have y := b2_0.mp (Decidable.not_not.mp y)
        rw [if_pos (by omega)] at eK
        rw [if_pos (by omega)] at eO
        rcases p.2.2.2.2.2 with ⟨u, _⟩ | ⟨_, u1, u2⟩
        · exact absurd e7 u
        · exact bad47 m p.1 (by omega) (by omega) (by omega) (by rw [u2, e10])
    · rw [e11] at q
      rw [if_pos q] at eK
      rw [if_pos (by omega)] at eO
      rcases p.2.2.2.2.2 with ⟨u, _⟩ | ⟨_, u1, u2⟩
      · exact absurd e7 u
      · exact bad20 m p.1 (by omega) (by omega) (by omega) (by rw [u2, e10])
  · rw [if_pos b1] at eK
    rw [if_pos (by omega)] at eO
    exact q_M_other_0 hK lo hi so B (br_t (by omega) (bad20 B (MFr_refl B) (by omega) (by omega) (by omega) e8))
end
section
/-! PURE PROOFS 71: names -/
def wm (b : Int → Int) (s e : Int) (i : Nat) : Prop := e - s = ((mstrs.getD i []).length : Nat) ∧ ∀ k : Nat, k < (mstrs.getD i []).length → b (s + (k : Nat)) = (((mstrs.getD i []).getD k 0 : Nat) : Int)
noncomputable def wmI (b : Int → Int) (s e : Int) (i : Nat) : Int := @ite Int (wm b s e i) (Classical.propDecidable _) 1 0
theorem wmI_t {b : Int → Int} {s e : Int} {i : Nat} (h : wm b s e i) : wmI b s e i = 1 := @if_pos _ (Classical.propDecidable _) h _ _ _
theorem wmI_f {b : Int → Int} {s e : Int} {i : Nat} (h : ¬ wm b s e i) : wmI b s e i = 0 := @if_neg _ (Classical.propDecidable _) h _ _ _
theorem wl : ∀ i : Nat, i < 6 → (mstrs.getD i []).length ≤ 6 ∧ 3 ≤ (mstrs.getD i []).length := by decide +kernel
theorem T_name (d : Nat) {A : mMem} {b : Int → Int} {L s e : Int} {i : Nat} (tp : TpL A b L) (hi : i < 6) (h4 : A 35 4 = e) (h6 : A 35 6 = s) (hs : 0 ≤ s ∧ s ≤ e ∧ e ≤ L) : mR3 (d + 1) 37 [vr 35, vs (i + 1)] (S0, A) (some (vi (wmI b s e i)), (S0, A)) := by
  obtain ⟨t1, t2, t3, t4⟩ := tp
  have l6 := wl i hi
  refine ⟨⟨by decide, Nat.le_of_ble_eq_true rfl⟩, fun K hK => q_T_isName_0 hK i A ?_⟩
  rw [h4, h6, w32_s (z := e - s) (by omega) (by omega)]
  refine ⟨fun q => ?_, fun q => mret_i (wmI_f (fun w => q w.1)).symm rfl⟩
  have loop : ∀ (j k : Nat), k + j = (mstrs.getD i []).length → (∀ x : Nat, x < k → b (s + (x : Nat)) = (((mstrs.getD i []).getD x 0 : Nat) : Int)) → ∀ z : Int, z = (k : Int) → K 20 [(0, vr 35), (1, vs (i + 1)), (2, vi z)] [] (S0, A) := by
    intro j
    induction j with
    | zero =>
      intro k hk h z hz
      refine q_T_isName_20 hK i z A (br_t (by omega) (mret_i (wmI_t ⟨q, fun x hx => h x (by omega)⟩).symm rfl))
    | succ j ih =>
      intro k hk h z hz
      have zt : z.toNat = k := by omega
      have ew : w32 (z + 1) = z + 1 := w32_s (by omega) (by omega)
      refine q_T_isName_20 hK i z A (br_f (by omega) ?_)
      rw [h6, w32_s (z := s + z) (by omega) (by omega), t1, zt, ew]
      refine mIn_i (by omega) (by omega) (mIn_i (by omega) (by omega) ⟨fun y => ?_, fun y => ?_⟩)
      · refine ih (k + 1) (by omega) (fun x hx => ?_) (z + 1) (by omega)
        by_cases w : x = k
        · rw [w, ← hz]
          exact y
        · exact h x (by omega)
      · refine mret_i (wmI_f (fun w => y ?_)).symm rfl
        have g := w.2 k (by omega)
        rw [← hz] at g
        exact g
  exact loop (mstrs.getD i []).length 0 (by omega) (fun x hx => absurd hx (by omega)) 0 rfl
/-- the other's number of a name, as the class has it -/
def mp (n : Nat) : Nat := [2, 3, 4, 5, 0, 1].getD n 0
theorem cu_v : ∀ n : Nat, n < 6 → (0 ≤ M0 57 n ∧ M0 57 n ≤ 25) ∧ M0 57 ((n : Int) + 1) - M0 57 n = ((mstrs.getD (mp n) []).length : Nat) := by decide +kernel
theorem le_v : ∀ n : Nat, n < 6 → ∀ k : Nat, k < (mstrs.getD (mp n) []).length → M0 58 (M0 57 n + (k : Nat)) = (((mstrs.getD (mp n) []).getD k 0 : Nat) : Int) ∧ M0 57 n + (k : Nat) < 31 := by decide +kernel
noncomputable def nmN (b : Int → Int) (s e : Int) : Nat → Nat → Int
  | 0, _ => -4
  | j + 1, n => if wmI b s e (mp n) = 1 then (n : Int) else nmN b s e j (n + 1)
theorem nmN_s (b : Int → Int) (s e : Int) (j n : Nat) : nmN b s e (j + 1) n = if wmI b s e (mp n) = 1 then (n : Int) else nmN b s e j (n + 1) := rfl
theorem M_name (d : Nat) {B : mMem} {b : Int → Int} {L s e : Int} (tp : TpM B b L) (h57 : B 57 = M0 57) (h58 : B 58 = M0 58) (h9 : B 53 9 = e) (h10 : B 53 10 = s) (hs : 0 ≤ s ∧ s ≤ e ∧ e ≤ L) (h11 : B 53 11 = 1) : mR3 (d + 2) 120 [vr 53] (S0, B) (some (vi (nmN b s e 6 0)), (S0, B)) := by
  obtain ⟨t1, t2, t3, t4⟩ := tp
  refine ⟨⟨by decide, Nat.le_of_ble_eq_true rfl⟩, fun K hK => q_M_nameHere_0 hK B ?_⟩
  have loop : ∀ (j n : Nat), n + j = 6 → nmN b s e j n = nmN b s e 6 0 → ∀ z : Int, z = (n : Int) → K 2 [(0, vr 53), (1, vi z)] [] (S0, B) := by
    intro j
    induction j with
    | zero =>
      intro n hn he z hz
      exact q_M_nameHere_2 hK z B (br_t (by omega) (mret_i he rfl))
    | succ j ih =>
      intro n hn he z hz
      have cu := cu_v n (by omega)
      have lv := le_v n (by omega)
      have l6 := wl (mp n) (by
        have : ∀ n : Nat, n < 6 → mp n < 6 := by decide
        exact this n (by omega))
      rw [nmN_s] at he
      rw [← hz] at cu lv he
      have ew : w32 (z + 1) = z + 1 := w32_s (by omega) (by omega)
      refine q_M_nameHere_2 hK z B (br_f (by omega) (br_f (fun w => w h11) ?_))
      rw [h9, h10, h57, ew, w32_s (z := e - s) (by omega) (by omega), w32_s (z := M0 57 (z + 1) - M0 57 z) (by omega) (by omega), cu.2]
      have nxt : ¬ wm b s e (mp n) → K 2 [(0, vr 53), (1, vi (w32 (z + 1)))] [] (S0, B) := fun w => by
        rw [wmI_f w, if_neg (by decide)] at he
        rw [ew]
        exact ih (n + 1) (by omega) he (z + 1) (by omega)
      refine mIn_i (by omega) (by omega) (mIn_i (by omega) (by omega) ⟨fun y => q_M_nameHere_51 hK z 0 0 B (br_t rfl (br_t rfl (nxt (fun w => y w.1)))), fun y => ?_⟩)
      have y := Decidable.not_not.mp y
      have inner : ∀ (j2 k : Nat), k + j2 = (mstrs.getD (mp n) []).length → (∀ x : Nat, x < k → b (s + (x : Nat)) = (((mstrs.getD (mp n) []).getD x 0 : Nat) : Int)) → ∀ u : Int, u = (k : Int) → K 51 [(0, vr 53), (1, vi z), (2, vi 1), (3, vi u)] [] (S0, B) := by
        intro j2
        induction j2 with
        | zero =>
          intro k hk h u hu
          refine q_M_nameHere_51 hK z 1 u B (br_f (by decide) ?_)
          rw [h9, h10, w32_s (z := e - s) (by omega) (by omega)]
          refine br_t (by omega) (br_f (by decide) (mret_i ?_ rfl))
          rw [wmI_t ⟨y, fun x hx => h x (by omega)⟩, if_pos rfl] at he
          exact he
        | succ j2 ih2 =>
          intro k hk h u hu
          have g := lv k (by omega)
          rw [← hu] at g
          have eu : w32 (u + 1) = u + 1 := w32_s (by omega) (by omega)
          have by1 := R_byteAt d B (s + u) (by omega) (by omega)
          rw [t1, if_neg (by omega), t2 (s + u) (by omega) (by omega)] at by1
          refine q_M_nameHere_51 hK z 1 u B (br_f (by decide) ?_)
          rw [h9, h10, w32_s (z := e - s) (by omega) (by omega), w32_s (z := s + u) (by omega) (by omega)]
          refine br_f (by omega) ⟨_, _, by1, ?_⟩
          rw [h57, h58, w32_s (z := M0 57 z + u) (by omega) (by omega), g.1, eu]
          refine mIn_i (by omega) (by omega) (mIn_i (by omega) (by omega) ⟨fun w => ?_, fun w => ?_⟩)
          · refine q_M_nameHere_51 hK z 0 _ B (br_t rfl (br_t rfl (nxt (fun v => w ?_))))
            have g2 := v.2 k (by omega)
            rw [← hu] at g2
            exact g2
          · refine ih2 (k + 1) (by omega) (fun x hx => ?_) (u + 1) (by omega)
            by_cases v : x = k
            · rw [v, ← hu]
              exact Decidable.not_not.mp w
            · exact h x (by omega)
      exact inner (mstrs.getD (mp n) []).length 0 (by omega) (fun x hx => absurd hx (by omega)) 0 rfl
  exact loop 6 0 (by omega) rfl 0 rfl
theorem wm_1 {b : Int → Int} {s e : Int} {i j : Nat} (hi : i < 6) (hj : j < 6) (h : wm b s e i) (g : wm b s e j) : i = j := by
  have l : (mstrs.getD i []).length = (mstrs.getD j []).length := by
    have a := h.1
    have c := g.1
    omega
  have l3 := wl i hi
  have l4 := wl j hj
  have a := h.2 0 (by omega)
  have c := g.2 0 (by omega)
  have f : (mstrs.getD i []).getD 0 0 = (mstrs.getD j []).getD 0 0 := by
    rw [a] at c
    omega
  have all : ∀ i : Nat, i < 6 → ∀ j : Nat, j < 6 → (mstrs.getD i []).length = (mstrs.getD j []).length → (mstrs.getD i []).getD 0 0 = (mstrs.getD j []).getD 0 0 → i = j := by decide +kernel
  exact all i hi j hj l f
theorem nmN_at {b : Int → Int} {s e : Int} {i n : Nat} (hi : i < 6) (hn : n < 6) (hm : mp n = i) (h : wm b s e i) : nmN b s e 6 0 = (n : Int) := by
  have key : ∀ (j k : Nat), k + j = 6 → k ≤ n → nmN b s e j k = (n : Int) := by
    intro j
    induction j with
    | zero =>
      intro k hk hkn
      exact absurd hkn (by omega)
    | succ j ih =>
      intro k hk hkn
      rw [nmN_s]
      by_cases q : k = n
      · rw [q, hm, wmI_t h, if_pos rfl]
      · have inj : ∀ a : Nat, a < 6 → ∀ c : Nat, c < 6 → mp a = mp c → a = c := by decide
        have lt : ∀ a : Nat, a < 6 → mp a < 6 := by decide
        have nw : ¬ wm b s e (mp k) := fun w => q (inj k (by omega) n hn (by rw [hm]; exact wm_1 (lt k (by omega)) hi w h))
        rw [wmI_f nw, if_neg (by decide)]
        exact ih (k + 1) (by omega) (by omega)
  exact key 6 0 (by omega) (by omega)
theorem nmN_no {b : Int → Int} {s e : Int} (h : ∀ i : Nat, i < 6 → ¬ wm b s e i) : nmN b s e 6 0 = -4 := by
  have lt : ∀ a : Nat, a < 6 → mp a < 6 := by decide
  have key : ∀ (j k : Nat), k + j = 6 → nmN b s e j k = -4 := by
    intro j
    induction j with
    | zero =>
      intro k hk
      rfl
    | succ j ih =>
      intro k hk
      rw [nmN_s, wmI_f (h (mp k) (lt k (by omega))), if_neg (by decide)]
      exact ih (k + 1) (by omega)
  exact key 6 0 (by omega)
end
section
/-! PURE PROOFS 72: lines, the class -/
abbrev Sig : Type := (Int → Int) × (Int → Int) × (Int → Int) × Int × Int × Int
def roP (b : Int → Int) (L y : Int) : Nat → Int → Int → (Int → Int) → Int × Int × Int × (Int → Int)
  | 0, _, n, g => (0, 0, n, g)
  | j + 1, x, n, g => if tB b L n ≠ 0 then (1, tS b L n, n, g) else if tT b L n = 3 then (0, 0, tE b L n, g) else if tT b L n ≠ 2 then (2, tS b L n, n, g) else if 6 ≤ x then (5, tS b L n, n, g) else if 4 < tV b L n then (3, tS b L n, n, g) else roP b L y j (x + 1) (tE b L n) (fup g (6 * x + y) (tV b L n))
theorem roP_s (b : Int → Int) (L y : Int) (j : Nat) (x n : Int) (g : Int → Int) : roP b L y (j + 1) x n g = if tB b L n ≠ 0 then (1, tS b L n, n, g) else if tT b L n = 3 then (0, 0, tE b L n, g) else if tT b L n ≠ 2 then (2, tS b L n, n, g) else if 6 ≤ x then (5, tS b L n, n, g) else if 4 < tV b L n then (3, tS b L n, n, g) else roP b L y j (x + 1) (tE b L n) (fup g (6 * x + y) (tV b L n)) := rfl
def rwP (b : Int → Int) (L n : Int) (q : Sig) : Int × Int × Int × Sig := if otK b L 0 5 q.2.2.2.2.1 n ≠ 0 then (otK b L 0 5 q.2.2.2.2.1 n, tS b L n, n, q) else ((roP b L (tV b L n) 7 0 (tE b L n) q.1).1, (roP b L (tV b L n) 7 0 (tE b L n) q.1).2.1, (roP b L (tV b L n) 7 0 (tE b L n) q.1).2.2.1, ((roP b L (tV b L n) 7 0 (tE b L n) q.1).2.2.2, q.2.1, q.2.2.1, q.2.2.2.1, jor q.2.2.2.2.1 (jshl 1 (tV b L n)), q.2.2.2.2.2))
def thP (b : Int → Int) (L n : Int) (q : Sig) : Int × Int × Int × Sig := if otK b L 1 3 q.2.2.2.2.2 n ≠ 0 then (otK b L 1 3 q.2.2.2.2.2 n, tS b L n, n, q) else if nuK b L 0 99 (tE b L n) ≠ 0 then (nuK b L 0 99 (tE b L n), tS b L (tE b L n), n, q) else if stK b L (tE b L (tE b L n)) ≠ 0 then (stK b L (tE b L (tE b L n)), tS b L (tE b L (tE b L n)), n, q) else (0, 0, tE b L (tE b L (tE b L n)), (q.1, fup q.2.1 (tV b L n) (tV b L (tE b L n)), q.2.2.1, q.2.2.2.1, q.2.2.2.2.1, jor q.2.2.2.2.2 (jshl 1 (tV b L n))))
def laW (W : Int → Int) (c kd x y z : Int) : Int → Int := fup (fup (fup (fup W (4 * c) kd) (4 * c + 1) x) (4 * c + 2) y) (4 * c + 3) z
def laP (b : Int → Int) (L kd p n : Int) (q : Sig) : Int × Int × Int × Sig := if 5 ≤ q.2.2.2.1 then (5, p, n, q) else if nuK b L 1 3 n ≠ 0 then (nuK b L 1 3 n, tS b L n, n, q) else if nuK b L 1 3 (tE b L n) ≠ 0 then (nuK b L 1 3 (tE b L n), tS b L (tE b L n), n, q) else if nuK b L 1 9 (tE b L (tE b L n)) ≠ 0 then (nuK b L 1 9 (tE b L (tE b L n)), tS b L (tE b L (tE b L n)), n, q) else if stK b L (tE b L (tE b L (tE b L n))) ≠ 0 then (stK b L (tE b L (tE b L (tE b L n))), tS b L (tE b L (tE b L (tE b L n))), n, q) else (0, 0, tE b L (tE b L (tE b L (tE b L n))), (q.1, q.2.1, laW q.2.2.1 q.2.2.2.1 kd (tV b L n) (tV b L (tE b L n)) (tV b L (tE b L (tE b L n))), q.2.2.2.1 + 1, q.2.2.2.2.1, q.2.2.2.2.2))
def TrT (A : mMem) (q : Sig) : Prop := Cht A 9 ∧ (∀ i : Int, 0 ≤ i → i < 36 → A 10 i = q.1 i) ∧ (∀ c : Int, 1 ≤ c → c ≤ 3 → A 11 c = q.2.1 c) ∧ (∀ i : Int, 0 ≤ i → i < 4 * q.2.2.2.1 → A 12 i = q.2.2.1 i) ∧ A 9 5 = q.2.2.2.1 ∧ A 9 6 = 0 ∧ A 35 8 = q.2.2.2.2.1 ∧ A 35 9 = q.2.2.2.2.2
def LFr (A' A : mMem) : Prop := (∀ k : Nat, (k < 9 ∨ 17 ≤ k) → k ≠ 35 → A' k = A k) ∧ A' 35 1 = A 35 1
theorem LFr_refl (A : mMem) : LFr A A := ⟨fun _ _ _ => rfl, rfl⟩
theorem LFr_trans {A B C : mMem} (h : LFr A B) (g : LFr B C) : LFr A C := ⟨fun k q r => (h.1 k q r).trans (g.1 k q r), h.2.trans g.2⟩
theorem LFr_t {A' A : mMem} (h : TFr A' A) : LFr A' A := ⟨fun k _ q => h.1 k q, h.2.1⟩
theorem TpL_l {A' A : mMem} {b : Int → Int} {L : Int} (h : TpL A b L) (f : LFr A' A) : TpL A' b L := ⟨by rw [f.1 36 (by omega) (by decide), h.1], by rw [f.2, h.2.1], h.2.2⟩
theorem TrT_t {A' A : mMem} {q : Sig} (h : TrT A q) (f : TFr A' A) : TrT A' q := by
  obtain ⟨c, h1, h2, h3, h4, h5, h6, h7⟩ := h
  refine ⟨Cht_eq c (fun k a b => f.1 k (by omega)), ?_, ?_, ?_, ?_, ?_, ?_, ?_⟩
  · rw [f.1 10 (by decide)]
    exact h1
  · rw [f.1 11 (by decide)]
    exact h2
  · rw [f.1 12 (by decide)]
    exact h3
  · rw [f.1 9 (by decide), h4]
  · rw [f.1 9 (by decide), h5]
  · rw [f.2.2.1, h6]
  · rw [f.2.2.2, h7]
/-- how a piece of a line ends -/
def LnL (A A' : mMem) (r : Int × Int × Int × Sig) : Prop := LFr A' A ∧ ((r.1 = 0 ∧ A' 35 2 = 0 ∧ A' 35 4 = r.2.2.1 ∧ TrT A' r.2.2.2) ∨ (r.1 ≠ 0 ∧ A' 35 2 = r.1 ∧ A' 35 3 = r.2.1))
theorem jbit0 (v : Int) : jand (jshr 0 v) 1 ≠ 1 := by
  have e : jshr 0 v = 0 := by
    unfold jshr
    rw [show Int32.ofInt 0 = 0 from rfl, Int32.zero_shiftRight]
    rfl
  rw [e]
  decide
theorem T_cell (d : Nat) {A : mMem} {x y : Int} {q : Sig} {v : Int} (h : TrT A q) (h2 : A 35 2 = 0) (h5 : A 35 5 = 2) (h7 : A 35 7 = v) (hx : 0 ≤ x ∧ x < 6) (hy : 0 ≤ y ∧ y < 6) (hv : 0 ≤ v ∧ v ≤ 4) : mN3 (d + 3) 39 [vr 35, vr 9, vi x, vi y] A (fun A' => LFr A' A ∧ A' 35 = A 35 ∧ TrT A' (fup q.1 (6 * x + y) v, q.2)) := by
  obtain ⟨c, h1, h22, h3, h4, h55, h6, h77⟩ := h
  have w : w32 (w32 (x * 6) + y) = 6 * x + y := by
    rw [w32_s (z := x * 6) (by omega) (by omega), w32_s (by omega) (by omega)]
    omega
  have e : ∀ k : Nat, k ≠ 10 → k ≠ 15 → k ≠ 16 → putM A 9 (6 * x + y) v k = A k := fun k a b c => put_ne _ _ _ _ a b c
  have e1 : putM A 9 (6 * x + y) v 10 = fup (A 10) (6 * x + y) v := put_cel A 9 _ v
  refine mN3_i ⟨by decide, Nat.le_of_ble_eq_true rfl⟩ (fun K hK => q_T_takeCell_0 hK x y A (br_t h2 (br_t h5 (br_t hx.2 ?_))))
  rw [h7, w]
  refine br_t hv.2 ⟨_, R_put d A 9 (by omega) (6 * x + y) v (by omega) hv c.1.1, rN_i ⟨⟨fun k a b => e k (by omega) (by omega) (by omega), by rw [e 35 (by decide) (by decide) (by decide)]⟩, e 35 (by decide) (by decide) (by decide), put_cht c (by omega) hv, ?_, ?_, ?_, ?_, ?_, ?_, ?_⟩⟩
  · intro i a b
    rw [e1]
    show fup (A 10) (6 * x + y) v i = fup q.1 (6 * x + y) v i
    unfold fup
    rw [h1 i a b]
  · rw [e 11 (by decide) (by decide) (by decide)]
    exact h22
  · rw [e 12 (by decide) (by decide) (by decide)]
    exact h3
  · rw [e 9 (by decide) (by decide) (by decide)]
    exact h4
  · rw [e 9 (by decide) (by decide) (by decide)]
    exact h55
  · rw [e 35 (by decide) (by decide) (by decide)]
    exact h6
  · rw [e 35 (by decide) (by decide) (by decide)]
    exact h77
theorem T_row (d : Nat) {A : mMem} {b : Int → Int} {L n : Int} {q : Sig} (tp : TpL A b L) (hn : 0 ≤ n ∧ n ≤ L) (h : TrT A q) (h2 : A 35 2 = 0) (h4 : A 35 4 = n) : mN3 (d + 4) 38 [vr 35, vr 9] A (fun A' => LnL A A' (rwP b L n q)) := by
  have er := (tE_rng (b := b) hn).2.1
  have sr := (tE_rng (b := b) hn).1
  refine mN3_i ⟨by decide, Nat.le_of_ble_eq_true rfl⟩ (fun K hK => q_T_readRow_0 hK A (cI (T_num d tp hn h2 h4) (fun v A1 p => ?_)))
  obtain ⟨f, e6, p⟩ := p
  have eO : otK b L 0 5 q.2.2.2.2.1 n = if nuK b L 0 5 n ≠ 0 then nuK b L 0 5 n else if q.2.2.2.2.1 ≠ 0 ∧ jand (jshr q.2.2.2.2.1 (tV b L n)) 1 = 1 then 4 else 0 := rfl
  have eR : rwP b L n q = if otK b L 0 5 q.2.2.2.2.1 n ≠ 0 then (otK b L 0 5 q.2.2.2.2.1 n, tS b L n, n, q) else ((roP b L (tV b L n) 7 0 (tE b L n) q.1).1, (roP b L (tV b L n) 7 0 (tE b L n) q.1).2.1, (roP b L (tV b L n) 7 0 (tE b L n) q.1).2.2.1, ((roP b L (tV b L n) 7 0 (tE b L n) q.1).2.2.2, q.2.1, q.2.2.1, q.2.2.2.1, jor q.2.2.2.2.1 (jshl 1 (tV b L n)), q.2.2.2.2.2)) := rfl
  generalize rwP b L n q = R at *
  have h1 := TrT_t h f
  have e8 : A1 35 8 = q.2.2.2.2.1 := h1.2.2.2.2.2.2.1
  have dead : ∀ (k x : Int) (A2 : mMem), k ≠ 0 → R.1 = k → R.2.1 = tS b L n → A2 35 2 = k → A2 35 3 = tS b L n → LFr A2 A → K 24 [(0, vr 35), (1, vr 9), (2, vi x)] [] (S0, A2) := by
    intro k x A2 k0 r1 r2 a2 a3 lf
    refine q_T_readRow_24 hK x A2 (q_T_readRow_38 hK x 0 _ (br_f (by decide) (br_t ?_ (rN_i ⟨?_, Or.inr ⟨by rw [r1]; exact k0, ?_, ?_⟩⟩))))
    · rw [mupd_at, fup_ne _ _ (by decide), a2]
      exact k0
    · exact LFr_trans ⟨fun k _ w => mupd_ne _ _ _ w, by rw [mupd_at, fup_ne _ _ (by decide)]⟩ lf
    · rw [mupd_at, fup_ne _ _ (by decide), a2, r1]
    · rw [mupd_at, fup_ne _ _ (by decide), a3, r2]
  rw [e8]
  rcases p with ⟨k0, ev, vb, e2, e3, e4⟩ | ⟨k1, ev, e2, e3⟩
  · rw [if_neg (fun w => w k0)] at eO
    rw [ev]
    by_cases bt : jand (jshr q.2.2.2.2.1 (tV b L n)) 1 ≠ 1
    · rw [if_neg (fun w => bt w.2)] at eO
      rw [if_neg (fun w => w eO)] at eR
      refine br_t bt (q_T_readRow_24 hK _ A1 ?_)
      rw [e8]
      rw [ev] at vb
      generalize tV b L n = y at *
      have yb : 0 ≤ y ∧ y < 6 := by omega
      generalize hr : roP b L y 7 0 (tE b L n) q.1 = r at eR
      have loop : ∀ (j : Nat) (x m : Int) (g : Int → Int), x + j = 7 → 0 ≤ x → 0 ≤ m → m ≤ L → roP b L y j x m g = r → ∀ A2 : mMem, LFr A2 A → TrT A2 (g, q.2.1, q.2.2.1, q.2.2.2.1, jor q.2.2.2.2.1 (jshl 1 y), q.2.2.2.2.2) → A2 35 2 = 0 → A2 35 4 = m → K 38 [(0, vr 35), (1, vr 9), (2, vi y), (3, vi x)] [] (S0, A2) := by
        intro j
        induction j with
        | zero =>
          intro x m g hx x0 m0 m1 he A2 lf tt a2 a4
          have he : ((0 : Int), (0 : Int), m, g) = r := he
          rw [← he] at eR
          refine q_T_readRow_38 hK y x A2 (br_t (by omega) (rN_i ⟨lf, Or.inl ⟨?_, a2, ?_, ?_⟩⟩))
          · rw [eR]
          · rw [eR]
            exact a4
          · rw [eR]
            exact tt
        | succ j ih =>
          intro x m g hx x0 m0 m1 he A2 lf tt a2 a4
          have tp2 := TpL_l tp lf
          have tk := T_token (d + 1) (A := A2) (n := m) (by rw [tp2.2.1]; omega) (by rw [tp2.2.1]; exact tp2.2.2.1.2) (by rw [tp2.1, tp2.2.1]; exact tp2.2.2.2) a2 a4
          have mr := tE_rng (b := b) (L := L) (n := m) ⟨m0, m1⟩
          rw [roP_s] at he
          refine q_T_readRow_38 hK y x A2 (br_f (by omega) (br_f (fun w => w a2) (cN tk (fun A3 p3 => ?_))))
          unfold TkL at p3
          rw [tp2.1, tp2.2.1] at p3
          obtain ⟨f3, c6, p3⟩ := p3
          have lf3 := LFr_trans (LFr_t f3) lf
          have tt3 := TrT_t tt f3
          have ew : w32 (x + 1) = x + 1 := w32_s (by omega) (by omega)
          have stopd : ∀ (k : Int) (A4 : mMem), k ≠ 0 → r.1 = k → r.2.1 = tS b L m → A4 35 2 = k → A4 35 3 = tS b L m → LFr A4 A → K 38 [(0, vr 35), (1, vr 9), (2, vi y), (3, vi (w32 (x + 1)))] [] (S0, A4) := by
            intro k A4 k0 r1 r2 b2' b3 lf4
            have fin : rN (fun A' => LnL A A' R) none (S0, A4) := rN_i ⟨lf4, Or.inr ⟨by rw [eR]; show r.1 ≠ 0; rw [r1]; exact k0, by rw [eR]; show A4 35 2 = r.1; rw [r1, b2'], by rw [eR]; show A4 35 3 = r.2.1; rw [r2, b3]⟩⟩
            exact q_T_readRow_38 hK y _ A4 ⟨fun _ => fin, fun _ => br_t (by rw [b2']; exact k0) fin⟩
          rcases p3 with ⟨b0, c2, c3, c5, c4, c7⟩ | ⟨b1, c2, c3⟩
          · rw [if_neg (fun w => w b0)] at he
            refine br_f (fun w => w c2) ⟨fun w => ?_, fun w => ?_⟩
            · rw [c5] at w
              rw [if_neg w] at he
              by_cases t2 : tT b L m ≠ 2
              · rw [if_pos t2] at he
                have tc : mN3 (d + 3) 39 [vr 35, vr 9, vi x, vi y] A3 (fun A' => LFr A' A3 ∧ A' 35 2 = 2 ∧ A' 35 3 = tS b L m) := by
                  refine mN3_i ⟨by decide, Nat.le_of_ble_eq_true rfl⟩ (fun K hK => q_T_takeCell_0 hK x y A3 (br_t c2 (br_f (by rw [c5]; exact t2) (cN (T_fail (d + 1) A3 2) (fun A4 p4 => ?_)))))
                  rcases p4.2.2.2.2.2 with ⟨u, _⟩ | ⟨_, u1, u2⟩
                  · exact absurd c2 u
                  · exact rN_i ⟨LFr_t p4.1, u1, by rw [u2, c6]⟩
                exact q_T_readRow_71 hK y x A3 (cN tc (fun A4 p4 => stopd 2 A4 (by decide) (by rw [← he]) (by rw [← he]) p4.2.1 p4.2.2 (LFr_trans p4.1 lf3)))
              · rw [if_neg t2] at he
                have t2 := Decidable.not_not.mp t2
                have c7 := c7 t2
                have vrg := tV_rng (b := b) tp.2.2.2 ⟨m0, m1⟩ b0 t2
                by_cases x6 : 6 ≤ x
                · rw [if_pos x6] at he
                  have tc : mN3 (d + 3) 39 [vr 35, vr 9, vi x, vi y] A3 (fun A' => LFr A' A3 ∧ A' 35 2 = 5 ∧ A' 35 3 = tS b L m) := by
                    refine mN3_i ⟨by decide, Nat.le_of_ble_eq_true rfl⟩ (fun K hK => q_T_takeCell_0 hK x y A3 (br_t c2 (br_t (by rw [c5]; exact t2) (br_f (by omega) (cN (T_fail (d + 1) A3 5) (fun A4 p4 => ?_))))))
                    rcases p4.2.2.2.2.2 with ⟨u, _⟩ | ⟨_, u1, u2⟩
                    · exact absurd c2 u
                    · exact rN_i ⟨LFr_t p4.1, u1, by rw [u2, c6]⟩
                  exact q_T_readRow_71 hK y x A3 (cN tc (fun A4 p4 => stopd 5 A4 (by decide) (by rw [← he]) (by rw [← he]) p4.2.1 p4.2.2 (LFr_trans p4.1 lf3)))
                · rw [if_neg x6] at he
                  by_cases v4 : 4 < tV b L m
                  · rw [if_pos v4] at he
                    have tc : mN3 (d + 3) 39 [vr 35, vr 9, vi x, vi y] A3 (fun A' => LFr A' A3 ∧ A' 35 2 = 3 ∧ A' 35 3 = tS b L m) := by
                      refine mN3_i ⟨by decide, Nat.le_of_ble_eq_true rfl⟩ (fun K hK => q_T_takeCell_0 hK x y A3 (br_t c2 (br_t (by rw [c5]; exact t2) (br_t (by omega) (br_f (by rw [c7]; omega) (cN (T_fail (d + 1) A3 3) (fun A4 p4 => ?_)))))))
                      rcases p4.2.2.2.2.2 with ⟨u, _⟩ | ⟨_, u1, u2⟩
                      · exact absurd c2 u
                      · exact rN_i ⟨LFr_t p4.1, u1, by rw [u2, c6]⟩
                    exact q_T_readRow_71 hK y x A3 (cN tc (fun A4 p4 => stopd 3 A4 (by decide) (by rw [← he]) (by rw [← he]) p4.2.1 p4.2.2 (LFr_trans p4.1 lf3)))
                  · rw [if_neg v4] at he
                    refine q_T_readRow_71 hK y x A3 (cN (T_cell d tt3 c2 (by rw [c5, t2]) c7 (x := x) (y := y) (by omega) yb (by omega)) (fun A4 p4 => ?_))
                    rw [ew]
                    exact ih (x + 1) (tE b L m) _ (by omega) (by omega) (by omega) mr.2.1.2 he A4 (LFr_trans p4.1 lf3) p4.2.2 (by rw [p4.2.1, c2]) (by rw [p4.2.1, c4])
            · rw [c5] at w
              rw [if_pos (Decidable.not_not.mp w)] at he
              refine rN_i ⟨lf3, Or.inl ⟨?_, c2, ?_, ?_⟩⟩
              · rw [eR, ← he]
              · rw [eR, ← he]
                exact c4
              · rw [eR, ← he]
                exact tt3
          · rw [if_pos b1] at he
            refine br_t (by rw [c2]; decide) ?_
            have tc : mN3 (d + 3) 39 [vr 35, vr 9, vi x, vi y] A3 (fun A' => A' = A3) := mN3_i ⟨by decide, Nat.le_of_ble_eq_true rfl⟩ (fun K hK => q_T_takeCell_0 hK x y A3 (br_f (by rw [c2]; decide) (rN_i rfl)))
            refine q_T_readRow_71 hK y x A3 (cN tc (fun A4 p4 => ?_))
            rw [p4]
            exact stopd 1 A3 (by decide) (by rw [← he]) (by rw [← he]) c2 c3 lf3
      refine loop 7 0 (tE b L n) q.1 (by omega) (by omega) (by omega) er.2 hr _ (LFr_trans ⟨fun k _ w => mupd_ne _ _ _ w, by rw [mupd_at, fup_ne _ _ (by decide)]⟩ (LFr_t f)) ?_ ?_ ?_
      · obtain ⟨c, g1, g2, g3, g4, g5, g6, g7⟩ := h1
        refine ⟨Cht_eq c (fun k a b => mupd_ne _ _ _ (by omega)), ?_, ?_, ?_, ?_, ?_, ?_, ?_⟩
        · rw [mupd_ne _ _ _ (by decide)]
          exact g1
        · rw [mupd_ne _ _ _ (by decide)]
          exact g2
        · rw [mupd_ne _ _ _ (by decide)]
          exact g3
        · rw [mupd_ne _ _ _ (by decide)]
          exact g4
        · rw [mupd_ne _ _ _ (by decide)]
          exact g5
        · rw [mupd_at, fup_at]
        · rw [mupd_at, fup_ne _ _ (by decide)]
          exact g7
      · rw [mupd_at, fup_ne _ _ (by decide), e2]
      · rw [mupd_at, fup_ne _ _ (by decide), e4]
    · have bt2 := Decidable.not_not.mp bt
      have s0 : q.2.2.2.2.1 ≠ 0 := fun w => by
        rw [w] at bt2
        exact jbit0 _ bt2
      rw [if_pos ⟨s0, bt2⟩] at eO
      rw [if_pos (by omega)] at eR
      refine br_f bt (cN (T_fail (d + 2) A1 4) (fun A2 p2 => ?_))
      rcases p2.2.2.2.2.2 with ⟨u, _⟩ | ⟨_, u1, u2⟩
      · exact absurd e2 u
      · exact dead 4 _ A2 (by decide) (by rw [eR]; exact eO) (by rw [eR]) u1 (by rw [u2, e6]) (LFr_trans (LFr_t p2.1) (LFr_t f))
  · rw [if_pos k1] at eO
    rw [if_pos (by omega)] at eR
    refine ⟨fun _ => dead (nuK b L 0 5 n) _ A1 k1 (by rw [eR]; exact eO) (by rw [eR]) e2 e3 (LFr_t f), fun _ => cN (T_fail (d + 2) A1 4) (fun A2 p2 => ?_)⟩
    rcases p2.2.2.2.2.2 with ⟨_, u1, u2⟩ | ⟨u, _⟩
    · exact dead (nuK b L 0 5 n) _ A2 k1 (by rw [eR]; exact eO) (by rw [eR]) (by rw [u1, e2]) (by rw [u2, e3]) (LFr_trans (LFr_t p2.1) (LFr_t f))
    · rw [e2] at u
      exact absurd u k1
end
section
/-! PURE PROOFS 73: threads and laws, the class -/
theorem LFr_9 {A' A : mMem} (h : LFr A' A) {i v : Int} (h1 : i ≠ 1) : LFr (mupd A' 35 i v) A := LFr_trans ⟨fun k _ w => mupd_ne _ _ _ w, by rw [mupd_at, fup_ne _ _ (Ne.symm h1)]⟩ h
theorem T_thread (d : Nat) {A : mMem} {b : Int → Int} {L n : Int} {q : Sig} (tp : TpL A b L) (hn : 0 ≤ n ∧ n ≤ L) (h : TrT A q) (h2 : A 35 2 = 0) (h4 : A 35 4 = n) : mN3 (d + 4) 40 [vr 35, vr 9] A (fun A' => LnL A A' (thP b L n q)) := by
  have er := (tE_rng (b := b) hn).2.1
  have sr := (tE_rng (b := b) hn).1
  refine mN3_i ⟨by decide, Nat.le_of_ble_eq_true rfl⟩ (fun K hK => q_T_readThread_0 hK A (cI (T_num d tp hn h2 h4) (fun v A1 p => ?_)))
  obtain ⟨f, e6, p⟩ := p
  have eO : otK b L 1 3 q.2.2.2.2.2 n = if nuK b L 1 3 n ≠ 0 then nuK b L 1 3 n else if q.2.2.2.2.2 ≠ 0 ∧ jand (jshr q.2.2.2.2.2 (tV b L n)) 1 = 1 then 4 else 0 := rfl
  have eR : thP b L n q = if otK b L 1 3 q.2.2.2.2.2 n ≠ 0 then (otK b L 1 3 q.2.2.2.2.2 n, tS b L n, n, q) else if nuK b L 0 99 (tE b L n) ≠ 0 then (nuK b L 0 99 (tE b L n), tS b L (tE b L n), n, q) else if stK b L (tE b L (tE b L n)) ≠ 0 then (stK b L (tE b L (tE b L n)), tS b L (tE b L (tE b L n)), n, q) else (0, 0, tE b L (tE b L (tE b L n)), (q.1, fup q.2.1 (tV b L n) (tV b L (tE b L n)), q.2.2.1, q.2.2.2.1, q.2.2.2.2.1, jor q.2.2.2.2.2 (jshl 1 (tV b L n)))) := rfl
  generalize thP b L n q = R at *
  have h1 := TrT_t h f
  have e8 : A1 35 9 = q.2.2.2.2.2 := h1.2.2.2.2.2.2.2
  have u9 : ∀ (A2 : mMem) (x : Int) (i : Int), i ≠ 9 → mupd A2 35 9 x 35 i = A2 35 i := fun A2 x i w => by rw [mupd_at, fup_ne _ _ w]
  have dead : ∀ (k x : Int) (A2 : mMem), k ≠ 0 → 1 ≤ x → x ≤ 3 → R.1 = k → R.2.1 = tS b L n → A2 35 2 = k → A2 35 3 = tS b L n → LFr A2 A → K 24 [(0, vr 35), (1, vr 9), (2, vi x)] [] (S0, A2) := by
    intro k x A2 k0 x1 x3 r1 r2 a2 a3 lf
    refine q_T_readThread_24 hK x A2 ⟨_, _, T_num0 d (by rw [u9 _ _ 2 (by decide), a2]; exact k0), mIn_i (by omega) (by omega) ⟨_, T_stop0 d (by rw [mupd_ne _ _ _ (by decide), u9 _ _ 2 (by decide), a2]; exact k0), rN_i ⟨?_, Or.inr ⟨by rw [r1]; exact k0, ?_, ?_⟩⟩⟩⟩
    · refine LFr_trans ⟨fun k w1 w2 => mupd_ne _ _ _ (by omega), by rw [mupd_ne _ _ _ (by decide)]⟩ (LFr_9 lf (by decide))
    · rw [mupd_ne _ _ _ (by decide), u9 _ _ 2 (by decide), a2, r1]
    · rw [mupd_ne _ _ _ (by decide), u9 _ _ 3 (by decide), a3, r2]
  rw [e8]
  rcases p with ⟨k0, ev, vb, e2, e3, e4⟩ | ⟨k1, ev, e2, e3⟩
  · rw [if_neg (fun w => w k0)] at eO
    rw [ev]
    rw [ev] at vb
    by_cases bt : jand (jshr q.2.2.2.2.2 (tV b L n)) 1 ≠ 1
    · rw [if_neg (fun w => bt w.2)] at eO
      rw [if_neg (fun w => w eO)] at eR
      refine br_t bt (q_T_readThread_24 hK _ A1 ?_)
      rw [e8]
      generalize tV b L n = y at *
      generalize jor q.2.2.2.2.2 (jshl 1 y) = s9 at *
      have lf1 : LFr (mupd A1 35 9 s9) A := LFr_9 (LFr_t f) (by decide)
      have mr := tE_rng (b := b) (L := L) (n := tE b L n) ⟨by omega, er.2⟩
      refine cI (T_num d (TpL_l tp lf1) (n := tE b L n) ⟨by omega, er.2⟩ (by rw [u9 _ _ 2 (by decide), e2]) (by rw [u9 _ _ 4 (by decide), e4])) (fun v2 A2 p2 => ?_)
      obtain ⟨f2, g6, p2⟩ := p2
      have lf2 := LFr_trans (LFr_t f2) lf1
      have lf3 : LFr (mupd A2 11 y v2) A := LFr_trans ⟨fun k w1 w2 => mupd_ne _ _ _ (by omega), by rw [mupd_ne _ _ _ (by decide)]⟩ lf2
      refine mIn_i (by omega) (by omega) ?_
      have u11 : ∀ i : Int, mupd A2 11 y v2 35 i = A2 35 i := fun i => by rw [mupd_ne _ _ _ (by decide)]
      rcases p2 with ⟨k2, ev2, vb2, g2, g3, g4⟩ | ⟨k2, ev2, g2, g3⟩
      · rw [if_neg (fun w => w k2)] at eR
        refine cN (T_stop d (TpL_l tp lf3) (n := tE b L (tE b L n)) ⟨by omega, mr.2.1.2⟩ (by rw [u11, g2]) (by rw [u11, g4])) (fun A3 p3 => ?_)
        obtain ⟨f3, p3⟩ := p3
        have lf4 := LFr_trans (LFr_t f3) lf3
        rcases p3 with ⟨k3, c2, c3, c4⟩ | ⟨k3, c2, c3⟩
        · rw [if_neg (fun w => w k3)] at eR
          refine rN_i ⟨lf4, Or.inl ⟨by rw [eR], c2, by rw [eR]; exact c4, ?_⟩⟩
          rw [eR]
          refine TrT_t ?_ f3
          have h3 : TrT A2 (q.1, q.2.1, q.2.2.1, q.2.2.2.1, q.2.2.2.2.1, s9) := by
            refine TrT_t ?_ f2
            obtain ⟨c, g1, g2, g3, g4, g5, g6, g7⟩ := h1
            refine ⟨Cht_eq c (fun k a b => mupd_ne _ _ _ (by omega)), ?_, ?_, ?_, ?_, ?_, ?_, ?_⟩
            · rw [mupd_ne _ _ _ (by decide)]
              exact g1
            · rw [mupd_ne _ _ _ (by decide)]
              exact g2
            · rw [mupd_ne _ _ _ (by decide)]
              exact g3
            · rw [mupd_ne _ _ _ (by decide)]
              exact g4
            · rw [mupd_ne _ _ _ (by decide)]
              exact g5
            · rw [mupd_at, fup_ne _ _ (by decide)]
              exact g6
            · rw [mupd_at, fup_at]
          rw [← ev2]
          obtain ⟨c, w1, w2, w3, w4, w5, w6, w7⟩ := h3
          refine ⟨?_, ?_, ?_, ?_, ?_, ?_, ?_, ?_⟩
          · obtain ⟨t0, l0, l1, p0, p1, sp⟩ := c
            refine ⟨Tal_of t0 (fun i _ _ => by rw [mupd_ne _ _ _ (by decide)]) (fun i _ _ => by rw [mupd_ne _ _ _ (by decide)]) (fun i _ _ => by rw [mupd_ne _ _ _ (by decide)]), ?_, ?_, ?_, ?_, ?_⟩
            · rw [mupd_ne _ _ _ (by decide)]
              exact l0
            · rw [mupd_ne _ _ _ (by decide), mupd_ne _ _ _ (by decide)]
              exact l1
            · rw [mupd_ne _ _ _ (by decide)]
              exact p0
            · rw [mupd_ne _ _ _ (by decide), mupd_ne _ _ _ (by decide), mupd_ne _ _ _ (by decide)]
              exact p1
            · intro i i1 i3
              show 0 ≤ mupd A2 11 y v2 11 i ∧ mupd A2 11 y v2 11 i ≤ 99
              rw [mupd_at]
              by_cases z : i = y
              · rw [z, fup_at]
                exact vb2
              · rw [fup_ne _ _ z]
                exact sp i i1 i3
          · rw [mupd_ne _ _ _ (by decide)]
            exact w1
          · intro i i1 i3
            rw [mupd_at]
            show fup (A2 11) y v2 i = fup q.2.1 y v2 i
            unfold fup
            rw [w2 i i1 i3]
          · rw [mupd_ne _ _ _ (by decide)]
            exact w3
          · rw [mupd_ne _ _ _ (by decide)]
            exact w4
          · rw [mupd_ne _ _ _ (by decide)]
            exact w5
          · rw [mupd_ne _ _ _ (by decide)]
            exact w6
          · rw [mupd_ne _ _ _ (by decide)]
            exact w7
        · rw [if_pos k3] at eR
          exact rN_i ⟨lf4, Or.inr ⟨by rw [eR]; exact k3, by rw [eR, c2], by rw [eR, c3]⟩⟩
      · rw [if_pos k2] at eR
        exact ⟨_, T_stop0 d (by rw [u11, g2]; exact k2), rN_i ⟨lf3, Or.inr ⟨by rw [eR]; exact k2, by rw [eR, u11, g2], by rw [eR, u11, g3]⟩⟩⟩
    · have bt2 := Decidable.not_not.mp bt
      have s0 : q.2.2.2.2.2 ≠ 0 := fun w => by
        rw [w] at bt2
        exact jbit0 _ bt2
      rw [if_pos ⟨s0, bt2⟩] at eO
      rw [if_pos (by omega)] at eR
      refine br_f bt (cN (T_fail (d + 2) A1 4) (fun A2 p2 => ?_))
      rcases p2.2.2.2.2.2 with ⟨u, _⟩ | ⟨_, u1, u2⟩
      · exact absurd e2 u
      · exact dead 4 _ A2 (by decide) (by omega) (by omega) (by rw [eR]; exact eO) (by rw [eR]) u1 (by rw [u2, e6]) (LFr_trans (LFr_t p2.1) (LFr_t f))
  · rw [if_pos k1] at eO
    rw [if_pos (by omega)] at eR
    refine ⟨fun _ => dead (nuK b L 1 3 n) _ A1 k1 (by omega) (by omega) (by rw [eR]; exact eO) (by rw [eR]) e2 e3 (LFr_t f), fun _ => cN (T_fail (d + 2) A1 4) (fun A2 p2 => ?_)⟩
    rcases p2.2.2.2.2.2 with ⟨_, u1, u2⟩ | ⟨u, _⟩
    · exact dead (nuK b L 1 3 n) _ A2 k1 (by omega) (by omega) (by rw [eR]; exact eO) (by rw [eR]) (by rw [u1, e2]) (by rw [u2, e3]) (LFr_trans (LFr_t p2.1) (LFr_t f))
    · rw [e2] at u
      exact absurd u k1
theorem T_law (d : Nat) {A : mMem} {b : Int → Int} {L n p kd : Int} {q : Sig} (tp : TpL A b L) (hn : 0 ≤ n ∧ n ≤ L) (h : TrT A q) (h2 : A 35 2 = 0) (h4 : A 35 4 = n) (h6 : A 35 6 = p) (hk : 0 ≤ kd ∧ kd ≤ 3) : mN3 (d + 4) 41 [vr 35, vr 9, vi kd] A (fun A' => LnL A A' (laP b L kd p n q)) := by
  have er := tE_rng (b := b) hn
  have er2 := tE_rng (b := b) (L := L) (n := tE b L n) ⟨by omega, er.2.1.2⟩
  have er3 := tE_rng (b := b) (L := L) (n := tE b L (tE b L n)) ⟨by omega, er2.2.1.2⟩
  have eR : laP b L kd p n q = if 5 ≤ q.2.2.2.1 then (5, p, n, q) else if nuK b L 1 3 n ≠ 0 then (nuK b L 1 3 n, tS b L n, n, q) else if nuK b L 1 3 (tE b L n) ≠ 0 then (nuK b L 1 3 (tE b L n), tS b L (tE b L n), n, q) else if nuK b L 1 9 (tE b L (tE b L n)) ≠ 0 then (nuK b L 1 9 (tE b L (tE b L n)), tS b L (tE b L (tE b L n)), n, q) else if stK b L (tE b L (tE b L (tE b L n))) ≠ 0 then (stK b L (tE b L (tE b L (tE b L n))), tS b L (tE b L (tE b L (tE b L n))), n, q) else (0, 0, tE b L (tE b L (tE b L (tE b L n))), (q.1, q.2.1, laW q.2.2.1 q.2.2.2.1 kd (tV b L n) (tV b L (tE b L n)) (tV b L (tE b L (tE b L n))), q.2.2.2.1 + 1, q.2.2.2.2.1, q.2.2.2.2.2)) := rfl
  generalize laP b L kd p n q = R at *
  have h5 : A 9 5 = q.2.2.2.1 := h.2.2.2.2.1
  refine mN3_i ⟨by decide, Nat.le_of_ble_eq_true rfl⟩ (fun K hK => q_T_readLaw_0 hK kd A ⟨fun w => ?_, fun w => cN (T_fail (d + 2) A 5) (fun A2 p2 => ?_)⟩)
  · rw [if_neg (by omega)] at eR
    refine cI (T_num d tp hn h2 h4) (fun v1 A1 p1 => ?_)
    obtain ⟨f1, _, p1⟩ := p1
    rcases p1 with ⟨k1, ev1, vb1, e2, e3, e4⟩ | ⟨k1, ev1, e2, e3⟩
    · rw [if_neg (fun w => w k1)] at eR
      refine cI (T_num d (TpL_fr tp f1) (n := tE b L n) ⟨by omega, er.2.1.2⟩ e2 e4) (fun v2 A2 p2 => ?_)
      obtain ⟨f2, _, p2⟩ := p2
      have f12 := TFr_trans f2 f1
      rcases p2 with ⟨k2, ev2, vb2, g2, g3, g4⟩ | ⟨k2, ev2, g2, g3⟩
      · rw [if_neg (fun w => w k2)] at eR
        refine cI (T_num d (TpL_fr tp f12) (n := tE b L (tE b L n)) ⟨by omega, er2.2.1.2⟩ g2 g4) (fun v3 A3 p3 => ?_)
        obtain ⟨f3, _, p3⟩ := p3
        have f13 := TFr_trans f3 f12
        rcases p3 with ⟨k3, ev3, vb3, i2, i3, i4⟩ | ⟨k3, ev3, i2, i3⟩
        · rw [if_neg (fun w => w k3)] at eR
          refine cN (T_stop d (TpL_fr tp f13) (n := tE b L (tE b L (tE b L n))) ⟨by omega, er3.2.1.2⟩ i2 i4) (fun A4 p4 => ?_)
          obtain ⟨f4, p4⟩ := p4
          have f14 := TFr_trans f4 f13
          rcases p4 with ⟨k4, c2, c3, c4⟩ | ⟨k4, c2, c3⟩
          · rw [if_neg (fun w => w k4)] at eR
            have h1 := TrT_t h f14
            have hL : 0 ≤ A4 9 5 ∧ A4 9 5 < 5 := ⟨h1.1.2.1.1, by rw [f14.1 9 (by decide)]; exact w⟩
            have a5 : A4 9 5 = q.2.2.2.1 := h1.2.2.2.2.1
            refine br_f (fun w => w c2) ⟨_, R_addLaw (d + 2) A4 9 (Or.inr rfl) kd v1 v2 v3 hL, rN_i ⟨?_, Or.inl ⟨by rw [eR], ?_, ?_, ?_⟩⟩⟩
            · refine LFr_trans ⟨fun k w1 w2 => alM_ne _ _ _ _ _ _ (by omega) (by omega), by rw [alM_ne _ _ _ _ _ _ (by decide) (by decide)]⟩ (LFr_t f14)
            · rw [alM_ne _ _ _ _ _ _ (by decide) (by decide)]
              exact c2
            · rw [alM_ne _ _ _ _ _ _ (by decide) (by decide), eR]
              exact c4
            · rw [eR, ← ev1, ← ev2, ← ev3]
              have ac := alM_cht h1.1 hL.2 hk vb1 vb2 vb3
              have a0 : alM A4 9 kd v1 v2 v3 9 = fup (A4 9) 5 (A4 9 5 + 1) := alM_0 A4 9 kd v1 v2 v3
              have a3 : alM A4 9 kd v1 v2 v3 12 = fup (fup (fup (fup (A4 12) (4 * A4 9 5) kd) (4 * A4 9 5 + 1) v1) (4 * A4 9 5 + 2) v2) (4 * A4 9 5 + 3) v3 := alM_3 A4 9 kd v1 v2 v3
              obtain ⟨_, w1, w2, w3, w4, w5, w6, w7⟩ := h1
              refine ⟨ac, ?_, ?_, ?_, ?_, ?_, ?_, ?_⟩
              · rw [alM_ne _ _ _ _ _ _ (by decide) (by decide)]
                exact w1
              · rw [alM_ne _ _ _ _ _ _ (by decide) (by decide)]
                exact w2
              · intro i i0 i1
                have i1 : i < 4 * (q.2.2.2.1 + 1) := i1
                rw [a3, a5]
                show fup (fup (fup (fup (A4 12) (4 * q.2.2.2.1) kd) (4 * q.2.2.2.1 + 1) v1) (4 * q.2.2.2.1 + 2) v2) (4 * q.2.2.2.1 + 3) v3 i = fup (fup (fup (fup q.2.2.1 (4 * q.2.2.2.1) kd) (4 * q.2.2.2.1 + 1) v1) (4 * q.2.2.2.1 + 2) v2) (4 * q.2.2.2.1 + 3) v3 i
                by_cases z : i < 4 * q.2.2.2.1
                · unfold fup
                  rw [w3 i i0 z]
                · unfold fup
                  by_cases z3 : i = 4 * q.2.2.2.1 + 3
                  · rw [if_pos z3, if_pos z3]
                  · rw [if_neg z3, if_neg z3]
                    by_cases z2 : i = 4 * q.2.2.2.1 + 2
                    · rw [if_pos z2, if_pos z2]
                    · rw [if_neg z2, if_neg z2]
                      by_cases z1 : i = 4 * q.2.2.2.1 + 1
                      · rw [if_pos z1, if_pos z1]
                      · rw [if_neg z1, if_neg z1, if_pos (by omega), if_pos (by omega)]
              · rw [a0, fup_at, a5]
              · rw [a0, fup_ne _ _ (by decide)]
                exact w5
              · rw [alM_ne _ _ _ _ _ _ (by decide) (by decide)]
                exact w6
              · rw [alM_ne _ _ _ _ _ _ (by decide) (by decide)]
                exact w7
          · rw [if_pos k4] at eR
            exact br_t (by rw [c2]; exact k4) (rN_i ⟨LFr_t f14, Or.inr ⟨by rw [eR]; exact k4, by rw [eR, c2], by rw [eR, c3]⟩⟩)
        · rw [if_pos k3] at eR
          have z : A3 35 2 ≠ 0 := by rw [i2]; exact k3
          exact ⟨_, T_stop0 d z, br_t z (rN_i ⟨LFr_t f13, Or.inr ⟨by rw [eR]; exact k3, by rw [eR, i2], by rw [eR, i3]⟩⟩)⟩
      · rw [if_pos k2] at eR
        have z : A2 35 2 ≠ 0 := by rw [g2]; exact k2
        exact ⟨_, _, T_num0 d z, _, T_stop0 d z, br_t z (rN_i ⟨LFr_t f12, Or.inr ⟨by rw [eR]; exact k2, by rw [eR, g2], by rw [eR, g3]⟩⟩)⟩
    · rw [if_pos k1] at eR
      have z : A1 35 2 ≠ 0 := by rw [e2]; exact k1
      exact ⟨_, _, T_num0 d z, _, _, T_num0 d z, _, T_stop0 d z, br_t z (rN_i ⟨LFr_t f1, Or.inr ⟨by rw [eR]; exact k1, by rw [eR, e2], by rw [eR, e3]⟩⟩)⟩
  · rw [if_pos (by omega)] at eR
    rcases p2.2.2.2.2.2 with ⟨u, _⟩ | ⟨_, u1, u2⟩
    · exact absurd h2 u
    · exact rN_i ⟨LFr_t p2.1, Or.inr ⟨by rw [eR]; show (5 : Int) ≠ 0; decide, by rw [eR, u1], by rw [eR, u2, h6]⟩⟩
end
section
/-! PURE PROOFS 74: a line, the class -/
noncomputable def liP (b : Int → Int) (L n : Int) (q : Sig) : Int × Int × Int × Sig := if tT b L n ≠ 1 ∨ nmN b (tS b L n) (tE b L n) 6 0 < 0 then (2, tS b L n, n, q) else if nmN b (tS b L n) (tE b L n) 6 0 = 4 then rwP b L (tE b L n) q else if nmN b (tS b L n) (tE b L n) 6 0 = 5 then thP b L (tE b L n) q else laP b L (nmN b (tS b L n) (tE b L n) 6 0) (tS b L n) (tE b L n) q
theorem wmI_n {b : Int → Int} {s e : Int} {i : Nat} (h : ¬ wmI b s e i = 0) : wm b s e i := Classical.byContradiction (fun w => h (wmI_f w))
theorem wmI_z {b : Int → Int} {s e : Int} {i : Nat} (h : wmI b s e i = 0) : ¬ wm b s e i := fun w => by
  have e := wmI_t w
  omega
theorem T_line (d : Nat) {A : mMem} {b : Int → Int} {L n : Int} {q : Sig} (tp : TpL A b L) (hn : 0 ≤ n ∧ n ≤ L) (h : TrT A q) (h2 : A 35 2 = 0) (h4 : A 35 4 = tE b L n) (h5 : A 35 5 = tT b L n) (h6 : A 35 6 = tS b L n) : mN3 (d + 5) 36 [vr 35, vr 9] A (fun A' => LnL A A' (liP b L n q)) := by
  have er := tE_rng (b := b) hn
  have eR : liP b L n q = if tT b L n ≠ 1 ∨ nmN b (tS b L n) (tE b L n) 6 0 < 0 then (2, tS b L n, n, q) else if nmN b (tS b L n) (tE b L n) 6 0 = 4 then rwP b L (tE b L n) q else if nmN b (tS b L n) (tE b L n) 6 0 = 5 then thP b L (tE b L n) q else laP b L (nmN b (tS b L n) (tE b L n) 6 0) (tS b L n) (tE b L n) q := rfl
  generalize liP b L n q = R at *
  have hs : 0 ≤ tS b L n ∧ tS b L n ≤ tE b L n ∧ tE b L n ≤ L := by omega
  have hm : 0 ≤ tE b L n ∧ tE b L n ≤ L := by omega
  have fl : ∀ (A2 : mMem), (R = (2, tS b L n, n, q)) → TFr A2 A → A2 35 2 = 2 → A2 35 3 = tS b L n → rN (fun A' => LnL A A' R) none (S0, A2) := by
    intro A2 w f a2 a3
    refine rN_i ⟨LFr_t f, Or.inr ⟨by rw [w]; show (2 : Int) ≠ 0; decide, by rw [w, a2], by rw [w, a3]⟩⟩
  refine mN3_i ⟨by decide, Nat.le_of_ble_eq_true rfl⟩ (fun K hK => q_T_readLine_0 hK A ⟨fun w => ?_, fun w => cN (T_fail (d + 3) A 2) (fun A2 p2 => ?_)⟩)
  · have t1 : tT b L n = 1 := by omega
    have nm : ∀ i : Nat, i < 6 → mR3 (d + 4) 37 [vr 35, vs (i + 1)] (S0, A) (some (vi (wmI b (tS b L n) (tE b L n) i)), (S0, A)) := fun i hi => T_name (d + 3) tp hi h4 h6 hs
    have law : ∀ (i k : Nat), i < 6 → k < 4 → mp k = i → wm b (tS b L n) (tE b L n) i → mN3 (d + 4) 41 [vr 35, vr 9, vi (k : Int)] A (fun A' => LnL A A' R) := by
      intro i k hi hk hp hw
      have e := nmN_at (n := k) hi (by omega) hp hw
      rw [e, if_neg (by omega), if_neg (by omega), if_neg (by omega)] at eR
      rw [eR]
      exact T_law d tp hm h h2 h4 h6 (by omega)
    refine ⟨_, _, nm 0 (by decide), ⟨fun w0 => ?_, fun w0 => ?_⟩⟩
    · refine ⟨_, _, nm 1 (by decide), ⟨fun w1 => ?_, fun w1 => ?_⟩⟩
      · refine ⟨_, _, nm 2 (by decide), ⟨fun w2 => ?_, fun w2 => ?_⟩⟩
        · refine ⟨_, _, nm 3 (by decide), ⟨fun w3 => ?_, fun w3 => ?_⟩⟩
          · refine ⟨_, _, nm 4 (by decide), ⟨fun w4 => ?_, fun w4 => ?_⟩⟩
            · refine ⟨_, _, nm 5 (by decide), ⟨fun w5 => ?_, fun w5 => ?_⟩⟩
              · have e := nmN_no (b := b) (s := tS b L n) (e := tE b L n) (fun i hi => match i, hi with
                  | 0, _ => wmI_z w0
                  | 1, _ => wmI_z w1
                  | 2, _ => wmI_z w2
                  | 3, _ => wmI_z w3
                  | 4, _ => wmI_z w4
                  | 5, _ => wmI_z w5)
                rw [if_pos (by omega)] at eR
                refine cN (T_fail (d + 3) A 2) (fun A2 p2 => ?_)
                rcases p2.2.2.2.2.2 with ⟨u, _⟩ | ⟨_, u1, u2⟩
                · exact absurd h2 u
                · exact fl A2 eR p2.1 u1 (by rw [u2, h6])
              · exact cN (law 5 3 (by decide) (by decide) rfl (wmI_n w5)) (fun A2 p2 => rN_i p2)
            · exact cN (law 4 2 (by decide) (by decide) rfl (wmI_n w4)) (fun A2 p2 => rN_i p2)
          · exact cN (law 3 1 (by decide) (by decide) rfl (wmI_n w3)) (fun A2 p2 => rN_i p2)
        · exact cN (law 2 0 (by decide) (by decide) rfl (wmI_n w2)) (fun A2 p2 => rN_i p2)
      · have e := nmN_at (n := 5) (i := 1) (by decide) (by decide) rfl (wmI_n w1)
        have e : nmN b (tS b L n) (tE b L n) 6 0 = 5 := e
        rw [e, if_neg (by omega), if_neg (by omega), if_pos rfl] at eR
        rw [eR]
        exact cN (T_thread d tp hm h h2 h4) (fun A2 p2 => rN_i p2)
    · have e := nmN_at (n := 4) (i := 0) (by decide) (by decide) rfl (wmI_n w0)
      have e : nmN b (tS b L n) (tE b L n) 6 0 = 4 := e
      rw [e, if_neg (by omega), if_pos rfl] at eR
      rw [eR]
      exact cN (T_row d tp hm h h2 h4) (fun A2 p2 => rN_i p2)
  · rw [if_pos (by omega)] at eR
    rcases p2.2.2.2.2.2 with ⟨u, _⟩ | ⟨_, u1, u2⟩
    · exact absurd h2 u
    · exact fl A2 eR p2.1 u1 (by rw [u2, h6])
theorem ro_rng (b : Int → Int) (L y : Int) : ∀ (j : Nat) (x m : Int) (g : Int → Int), 0 ≤ m → m ≤ L → (roP b L y j x m g).1 = 0 → m ≤ (roP b L y j x m g).2.2.1 ∧ (roP b L y j x m g).2.2.1 ≤ L := by
  intro j
  induction j with
  | zero =>
    intro x m g m0 m1 _
    exact ⟨Int.le_refl m, m1⟩
  | succ j ih =>
    intro x m g m0 m1
    have er := tE_rng (b := b) (L := L) (n := m) ⟨m0, m1⟩
    rw [roP_s]
    by_cases c1 : tB b L m ≠ 0
    · rw [if_pos c1]
      exact fun w => absurd w (show (1 : Int) ≠ 0 by decide)
    · rw [if_neg c1]
      by_cases c2 : tT b L m = 3
      · rw [if_pos c2]
        intro _
        show m ≤ tE b L m ∧ tE b L m ≤ L
        omega
      · rw [if_neg c2]
        by_cases c3 : tT b L m ≠ 2
        · rw [if_pos c3]
          exact fun w => absurd w (show (2 : Int) ≠ 0 by decide)
        · rw [if_neg c3]
          by_cases c4 : 6 ≤ x
          · rw [if_pos c4]
            exact fun w => absurd w (show (5 : Int) ≠ 0 by decide)
          · rw [if_neg c4]
            by_cases c5 : 4 < tV b L m
            · rw [if_pos c5]
              exact fun w => absurd w (show (3 : Int) ≠ 0 by decide)
            · rw [if_neg c5]
              intro w
              have r := ih (x + 1) (tE b L m) _ (by omega) er.2.1.2 w
              omega
theorem li_rng {b : Int → Int} {L n : Int} {q : Sig} (hn : 0 ≤ n ∧ n ≤ L) (ht : tT b L n ≠ 0) (h : (liP b L n q).1 = 0) : n < (liP b L n q).2.2.1 ∧ (liP b L n q).2.2.1 ≤ L := by
  have er := tE_rng (b := b) hn
  have e1 := er.2.2 ht
  have er2 := tE_rng (b := b) (L := L) (n := tE b L n) ⟨by omega, er.2.1.2⟩
  have er3 := tE_rng (b := b) (L := L) (n := tE b L (tE b L n)) ⟨by omega, er2.2.1.2⟩
  have er4 := tE_rng (b := b) (L := L) (n := tE b L (tE b L (tE b L n))) ⟨by omega, er3.2.1.2⟩
  have er5 := tE_rng (b := b) (L := L) (n := tE b L (tE b L (tE b L (tE b L n)))) ⟨by omega, er4.2.1.2⟩
  revert h
  unfold liP
  split
  · exact fun w => absurd w (show (2 : Int) ≠ 0 by decide)
  · split
    · unfold rwP
      split
      · rename_i c
        exact fun w => absurd w c
      · intro w
        have r := ro_rng b L (tV b L (tE b L n)) 7 0 (tE b L (tE b L n)) q.1 (by omega) er2.2.1.2 w
        show n < (roP b L (tV b L (tE b L n)) 7 0 (tE b L (tE b L n)) q.1).2.2.1 ∧ (roP b L (tV b L (tE b L n)) 7 0 (tE b L (tE b L n)) q.1).2.2.1 ≤ L
        omega
    · split
      · unfold thP
        split
        · rename_i c
          exact fun w => absurd w c
        · split
          · rename_i c
            exact fun w => absurd w c
          · split
            · rename_i c
              exact fun w => absurd w c
            · intro _
              show n < tE b L (tE b L (tE b L (tE b L n))) ∧ tE b L (tE b L (tE b L (tE b L n))) ≤ L
              omega
      · unfold laP
        split
        · exact fun w => absurd w (show (5 : Int) ≠ 0 by decide)
        · split
          · rename_i c
            exact fun w => absurd w c
          · split
            · rename_i c
              exact fun w => absurd w c
            · split
              · rename_i c
                exact fun w => absurd w c
              · split
                · rename_i c
                  exact fun w => absurd w c
                · intro _
                  show n < tE b L (tE b L (tE b L (tE b L (tE b L n)))) ∧ tE b L (tE b L (tE b L (tE b L (tE b L n)))) ≤ L
                  omega
end
section
/-! PURE PROOFS 75: all lines, the class -/
noncomputable def teP (b : Int → Int) (L : Int) : Nat → Int → Int → Sig → Int × Int × Int × Sig
  | 0, _, c, q => (0, 0, c, q)
  | j + 1, n, c, q => if tB b L n ≠ 0 then (1, tS b L n, c, q) else if tT b L n = 0 then (0, 0, c, q) else if (liP b L n q).1 ≠ 0 then ((liP b L n q).1, (liP b L n q).2.1, c, q) else teP b L j (liP b L n q).2.2.1 (c + 1) (liP b L n q).2.2.2
theorem teP_s (b : Int → Int) (L : Int) (j : Nat) (n c : Int) (q : Sig) : teP b L (j + 1) n c q = if tB b L n ≠ 0 then (1, tS b L n, c, q) else if tT b L n = 0 then (0, 0, c, q) else if (liP b L n q).1 ≠ 0 then ((liP b L n q).1, (liP b L n q).2.1, c, q) else teP b L j (liP b L n q).2.2.1 (c + 1) (liP b L n q).2.2.2 := rfl
def q0 : Sig := (fun _ => 0, fun _ => 20, fun _ => 0, 0, 0, 0)
theorem mc_1 (M : mMem) (i : Int) (h0 : 0 ≤ i) (h1 : i < 36) : mclear M 9 10 i = 0 := by
  unfold mclear
  rw [mupd_ne _ _ _ (by decide), mupd_ne _ _ _ (by decide), mfill_ne _ _ _ (by decide), mupd_ne _ _ _ (by decide), mupd_ne _ _ _ (by decide), mfill_ne _ _ _ (by decide), mfill_ne _ _ _ (by decide)]
  exact mfill_at _ h0 (by omega)
theorem mc_2 (M : mMem) (i : Int) (h0 : 0 ≤ i) (h1 : i < 4) : mclear M 9 11 i = 20 := by
  unfold mclear
  rw [mupd_ne _ _ _ (by decide), mupd_ne _ _ _ (by decide)]
  exact mfill_at _ h0 (by omega)
theorem mc_6 (M : mMem) (i : Int) (h0 : 0 ≤ i) (h1 : i < 25) : mclear M 9 15 i = if i = 0 then 30 else 0 := by
  unfold mclear
  rw [mupd_ne _ _ _ (by decide), mupd_ne _ _ _ (by decide), mfill_ne _ _ _ (by decide), mupd_ne _ _ _ (by decide)]
  refine (congrFun (mupd_at _ 15 0 30) i).trans ?_
  unfold fup
  split
  · rfl
  · rw [mfill_ne _ _ _ (by decide)]
    exact mfill_at _ h0 (by omega)
theorem mc_7 (M : mMem) (i : Int) (h0 : 0 ≤ i) (h1 : i < 25) : mclear M 9 16 i = if i = 0 then 30 else 0 := by
  unfold mclear
  rw [mupd_ne _ _ _ (by decide), mupd_ne _ _ _ (by decide), mfill_ne _ _ _ (by decide)]
  refine (congrFun (mupd_at _ 16 0 30) i).trans ?_
  unfold fup
  split
  · rfl
  · rw [mupd_ne _ _ _ (by decide)]
    exact mfill_at _ h0 (by omega)
theorem mc_n (M : mMem) : mclear M 9 9 5 = 0 ∧ mclear M 9 9 6 = 0 := by
  unfold mclear
  refine ⟨?_, ?_⟩
  · refine (congrFun (mupd_at _ 9 _ 0) 5).trans ?_
    refine (fup_ne _ _ (by decide)).trans ?_
    refine (congrFun (mupd_at _ 9 _ 0) 5).trans ?_
    exact fup_at _ _ _
  · refine (congrFun (mupd_at _ 9 _ 0) 6).trans ?_
    exact fup_at _ _ _
theorem mc_cht (M : mMem) : Cht (mclear M 9) 9 := by
  have e1 := mc_1 M
  have e2 := mc_2 M
  have e6 := mc_6 M
  have e7 := mc_7 M
  have en := mc_n M
  generalize mclear M 9 = N at *
  have z2 : ∀ a c : Int, 0 ≤ a ∧ a ≤ 4 → 0 ≤ c ∧ c ≤ 4 → cB (N 10) a c = (if 5 * a + c = 0 then 30 else 0) ∧ cA (N 10) a c = (if 5 * a + c = 0 then 30 else 0) := by
    intro a c ha hc
    rw [cB_cong (g := fun _ => 0) e1, cA_cong (g := fun _ => 0) e1]
    by_cases q : 5 * a + c = 0
    · rw [if_pos q, show a = 0 by omega, show c = 0 by omega]
      exact ⟨by decide +kernel, by decide +kernel⟩
    · rw [if_neg q]
      refine ⟨?_, ?_⟩
      · exact (sm_cong (h := fun _ => 0) (fun k _ => b2_f (fun w => q (by have u : (0 : Int) = a := w.1; have v : (0 : Int) = c := w.2; omega)))).trans (sm_0 30)
      · exact (sm_cong (h := fun _ => 0) (fun k _ => b2_f (fun w => q (by have u : (0 : Int) = a := w.2.1; have v : (0 : Int) = c := w.2.2; omega)))).trans (sm_0 36)
  refine ⟨⟨fun i a b => ?_, fun a c ha hc => ?_, fun a c ha hc => ?_⟩, ?_, fun l a b => ?_, ?_, fun i a b => ?_, fun c a b => ?_⟩
  · have e : N (9 + 1) i = 0 := e1 i a b
    omega
  · have e : N (9 + 6) (5 * a + c) = if 5 * a + c = 0 then 30 else 0 := e6 _ (by omega) (by omega)
    rw [e]
    exact (z2 a c ha hc).1.symm
  · have e : N (9 + 7) (5 * a + c) = if 5 * a + c = 0 then 30 else 0 := e7 _ (by omega) (by omega)
    rw [e]
    exact (z2 a c ha hc).2.symm
  · omega
  · exact absurd b (by omega)
  · omega
  · exact absurd b (by omega)
  · have e : N (9 + 2) c = 20 := e2 c (by omega) (by omega)
    omega
theorem T_tell (d : Nat) {A : mMem} {b : Int → Int} {L : Int} (tp : TpL A b L) : mI3 (d + 6) 31 [vr 35, vr 9] A (fun v A' => LFr A' A ∧ (((teP b L 162 0 0 q0).1 = 0 ∧ v = (teP b L 162 0 0 q0).2.2.1 ∧ A' 35 2 = 0 ∧ TrT A' (teP b L 162 0 0 q0).2.2.2) ∨ ((teP b L 162 0 0 q0).1 ≠ 0 ∧ A' 35 2 = (teP b L 162 0 0 q0).1 ∧ A' 35 3 = (teP b L 162 0 0 q0).2.1))) := by
  generalize hr : teP b L 162 0 0 q0 = r
  refine mI3_i ⟨by decide, Nat.le_of_ble_eq_true rfl⟩ (fun K hK => q_T_tell_0 hK A ⟨_, R_clear (d + 3) S0 A 9 isCh9, ?_⟩)
  have loop : ∀ (j : Nat) (n c : Int) (q : Sig), L + 1 ≤ n + j → 0 ≤ c → c ≤ n → n ≤ L → teP b L j n c q = r → ∀ A2 : mMem, LFr A2 A → TrT A2 q → A2 35 2 = 0 → A2 35 4 = n → K 33 [(0, vr 35), (1, vr 9), (2, vi c), (3, vi c)] [] (S0, A2) := by
    intro j
    induction j with
    | zero =>
      intro n c q hj c0 cn nl
      omega
    | succ j ih =>
      intro n c q hj c0 cn nl he A2 lf tt a2 a4
      have tp2 := TpL_l tp lf
      have tl := tp.2.2.1
      rw [teP_s] at he
      have tk := T_token (d + 3) (A := A2) (n := n) (by rw [tp2.2.1]; omega) (by rw [tp2.2.1]; exact tp2.2.2.1.2) (by rw [tp2.1, tp2.2.1]; exact tp2.2.2.2) a2 a4
      refine q_T_tell_33 hK c c A2 (br_f (by omega) (cN tk (fun A3 p3 => ?_)))
      unfold TkL at p3
      rw [tp2.1, tp2.2.1] at p3
      obtain ⟨f3, c6, p3⟩ := p3
      have lf3 := LFr_trans (LFr_t f3) lf
      have tt3 := TrT_t tt f3
      have ew : w32 (c + 1) = c + 1 := w32_s (by omega) (by omega)
      rcases p3 with ⟨b0, c2, c3, c5, c4, c7⟩ | ⟨b1, c2, c3⟩
      · rw [if_neg (fun w => w b0)] at he
        refine br_f (fun w => w c2) ⟨fun w => ?_, fun w => ?_⟩
        · rw [c5] at w
          rw [if_neg w] at he
          refine cN (T_line d (TpL_l tp lf3) (n := n) (by omega) tt3 c2 c4 c5 c6) (fun A4 p4 => ?_)
          obtain ⟨lf4, p4⟩ := p4
          have lf5 := LFr_trans lf4 lf3
          rw [ew]
          rcases p4 with ⟨r1, g2, g4, gt⟩ | ⟨r1, g2, g3⟩
          · rw [if_neg (fun w => w r1)] at he
            have lr := li_rng (b := b) (L := L) (n := n) (q := q) (by omega) w r1
            exact ih _ (c + 1) _ (by omega) (by omega) (by omega) lr.2 he A4 lf5 gt g2 g4
          · rw [if_pos r1] at he
            have z : A4 35 2 ≠ 0 := by rw [g2]; exact r1
            have fin : ∀ v : Int, rI (fun v A' => LFr A' A ∧ ((r.1 = 0 ∧ v = r.2.2.1 ∧ A' 35 2 = 0 ∧ TrT A' r.2.2.2) ∨ (r.1 ≠ 0 ∧ A' 35 2 = r.1 ∧ A' 35 3 = r.2.1))) (some (vi v)) (S0, A4) := fun v => rI_i ⟨lf5, Or.inr ⟨by rw [← he]; exact r1, by rw [← he]; exact g2, by rw [← he]; exact g3⟩⟩
            exact q_T_tell_33 hK (c + 1) (c + 1) A4 ⟨fun _ => fin _, fun _ => ⟨_, T_tok0 (d + 3) z, br_t z (fin _)⟩⟩
        · rw [c5] at w
          rw [if_pos (Decidable.not_not.mp w)] at he
          exact rI_i ⟨lf3, Or.inl ⟨by rw [← he], by rw [← he], c2, by rw [← he]; exact tt3⟩⟩
      · rw [if_pos b1] at he
        exact br_t (by rw [c2]; decide) (rI_i ⟨lf3, Or.inr ⟨by rw [← he]; show (1 : Int) ≠ 0; decide, by rw [← he]; exact c2, by rw [← he]; exact c3⟩⟩)
  have mc := mc_cht A
  have e1 := mc_1 A
  have e2 := mc_2 A
  have en := mc_n A
  have ec : ∀ k : Nat, k < 9 ∨ 17 ≤ k → mclear A 9 k = A k := fun k w => mclear_ne A (by omega)
  generalize mclear A 9 = m1 at mc e1 e2 en ec
  have nk : ∀ k : Nat, k ≠ 35 → mupd (mupd (mupd (mupd (mupd m1 35 2 0) 35 3 0) 35 4 0) 35 8 0) 35 9 0 k = m1 k := fun k w => by rw [mupd_ne _ _ _ w, mupd_ne _ _ _ w, mupd_ne _ _ _ w, mupd_ne _ _ _ w, mupd_ne _ _ _ w]
  have n1 : mupd (mupd (mupd (mupd (mupd m1 35 2 0) 35 3 0) 35 4 0) 35 8 0) 35 9 0 35 1 = A 35 1 := by rw [mupd_at, fup_ne _ _ (by decide), mupd_at, fup_ne _ _ (by decide), mupd_at, fup_ne _ _ (by decide), mupd_at, fup_ne _ _ (by decide), mupd_at, fup_ne _ _ (by decide), ec 35 (by omega)]
  have n2 : mupd (mupd (mupd (mupd (mupd m1 35 2 0) 35 3 0) 35 4 0) 35 8 0) 35 9 0 35 2 = 0 := by rw [mupd_at, fup_ne _ _ (by decide), mupd_at, fup_ne _ _ (by decide), mupd_at, fup_ne _ _ (by decide), mupd_at, fup_ne _ _ (by decide), mupd_at, fup_at]
  have n4 : mupd (mupd (mupd (mupd (mupd m1 35 2 0) 35 3 0) 35 4 0) 35 8 0) 35 9 0 35 4 = 0 := by rw [mupd_at, fup_ne _ _ (by decide), mupd_at, fup_ne _ _ (by decide), mupd_at, fup_at]
  have n8 : mupd (mupd (mupd (mupd (mupd m1 35 2 0) 35 3 0) 35 4 0) 35 8 0) 35 9 0 35 8 = 0 := by rw [mupd_at, fup_ne _ _ (by decide), mupd_at, fup_at]
  have n9 : mupd (mupd (mupd (mupd (mupd m1 35 2 0) 35 3 0) 35 4 0) 35 8 0) 35 9 0 35 9 = 0 := by rw [mupd_at, fup_at]
  generalize mupd (mupd (mupd (mupd (mupd m1 35 2 0) 35 3 0) 35 4 0) 35 8 0) 35 9 0 = N at nk n1 n2 n4 n8 n9
  have tl := tp.2.2.1
  refine loop 162 0 0 q0 (by omega) (by omega) (by omega) tl.1 hr N ⟨fun k a w => (nk k w).trans (ec k a), n1⟩ ⟨Cht_eq mc (fun k a b => nk k (by omega)), ?_, ?_, ?_, ?_, ?_, n8, n9⟩ n2 n4
  · rw [nk 10 (by decide)]
    exact e1
  · rw [nk 11 (by decide)]
    exact fun c a b => e2 c (by omega) (by omega)
  · intro i a w
    exact absurd (show i < 4 * 0 from w) (by omega)
  · rw [nk 9 (by decide)]
    exact en.1
  · rw [nk 9 (by decide)]
    exact en.2
end
section
/-! PURE PROOFS 76: rows, threads and laws, the other -/
def GFr (B' B : mMem) : Prop := (∀ k : Nat, k ≠ 53 → k ≠ 55 → B' k = B k) ∧ ∀ x : Int, (x < 2 ∨ (3 < x ∧ x < 7) ∨ 12 < x) → B' 53 x = B 53 x
theorem GFr_refl (B : mMem) : GFr B B := ⟨fun _ _ _ => rfl, fun _ _ => rfl⟩
theorem GFr_trans {A B C : mMem} (h : GFr A B) (g : GFr B C) : GFr A C := ⟨fun k q r => (h.1 k q r).trans (g.1 k q r), fun x q => (h.2 x q).trans (g.2 x q)⟩
theorem GFr_m {B' B : mMem} (h : MFr B' B) : GFr B' B := ⟨fun k q _ => h.1 k q, fun x q => h.2 x (by omega)⟩
theorem GFr_5 {B' B : mMem} (h : GFr B' B) {i v : Int} : GFr (mupd B' 55 i v) B := GFr_trans ⟨fun k _ w => mupd_ne _ _ _ w, fun x _ => by rw [mupd_ne _ _ _ (by decide)]⟩ h
theorem GFr_2 {B' B : mMem} (h : GFr B' B) {i v : Int} (hi : i = 2 ∨ i = 3) : GFr (mupd B' 53 i v) B := GFr_trans ⟨fun k w _ => mupd_ne _ _ _ w, fun x w => by rw [mupd_at, fup_ne _ _ (by omega)]⟩ h
theorem TpM_g {B' B : mMem} {b : Int → Int} {L : Int} (h : TpM B b L) (f : GFr B' B) : TpM B' b L := ⟨by rw [f.2 5 (by omega), h.1], fun i a c => by rw [f.1 56 (by decide) (by decide), h.2.1 i a c], h.2.2⟩
theorem LkM_5 {B : mMem} {b : Int → Int} {L n i v : Int} (h : LkM B b L n) : LkM (mupd B 55 i v) b L n := by
  unfold LkM
  rw [mupd_ne _ _ _ (by decide)]
  exact h
theorem LkM_2 {B : mMem} {b : Int → Int} {L n i v : Int} (h : LkM B b L n) (hi : i = 2 ∨ i = 3) : LkM (mupd B 53 i v) b L n := by
  unfold LkM
  rw [mupd_at, fup_ne _ _ (by omega), fup_ne _ _ (by omega), fup_ne _ _ (by omega), fup_ne _ _ (by omega), fup_ne _ _ (by omega), fup_ne _ _ (by omega)]
  exact h
def PgT (B : mMem) (q : Sig) : Prop := (∀ i : Int, 0 ≤ i → i < 36 → B 55 i = q.1 i) ∧ (∀ c : Int, 1 ≤ c → c ≤ 3 → B 55 (35 + c) + 20 = q.2.1 c) ∧ B 55 39 = q.2.2.2.1 ∧ (∀ l x : Int, 0 ≤ l → l < q.2.2.2.1 → 0 ≤ x → x < 4 → B 55 (40 + 5 * x + l) = q.2.2.1 (4 * l + x)) ∧ B 55 60 = 0 ∧ (0 ≤ q.2.2.2.1 ∧ q.2.2.2.1 ≤ 5) ∧ B 53 2 = q.2.2.2.2.1 ∧ B 53 3 = q.2.2.2.2.2
theorem PgT_m {B' B : mMem} {q : Sig} (h : PgT B q) (f : MFr B' B) : PgT B' q := by
  unfold PgT
  rw [f.1 55 (by decide), f.2 2 (by omega), f.2 3 (by omega)]
  exact h
theorem nu_pos {b : Int → Int} {L lo hi n : Int} (h : nuK b L lo hi n ≠ 0) : 0 < nuK b L lo hi n := by
  revert h
  unfold nuK
  split
  · exact fun _ => by decide
  · split
    · exact fun _ => by decide
    · split
      · exact fun _ => by decide
      · exact fun w => absurd rfl w
theorem ot_pos {b : Int → Int} {L lo hi so n : Int} (h : otK b L lo hi so n ≠ 0) : 0 < otK b L lo hi so n := by
  revert h
  unfold otK
  split
  · rename_i c
    exact fun _ => nu_pos c
  · split
    · exact fun _ => by decide
    · exact fun w => absurd rfl w
theorem ot_0 (b : Int → Int) (L lo hi n : Int) : otK b L lo hi 0 n = nuK b L lo hi n := by
  unfold otK
  split
  · rfl
  · rename_i c
    rw [if_neg (fun w => w.1 rfl)]
    exact (Decidable.not_not.mp c).symm
theorem M_num (d : Nat) {B : mMem} {b : Int → Int} {L n lo hi : Int} (tp : TpM B b L) (hn : 0 ≤ n ∧ n ≤ L) (lk : LkM B b L n) : mI3 (d + 3) 122 [vr 53, vi lo, vi hi, vi 0] B (fun v B' => MFr B' B ∧ ((nuK b L lo hi n = 0 ∧ v = tV b L n ∧ (lo ≤ v ∧ v ≤ hi) ∧ LkM B' b L (tE b L n)) ∨ (nuK b L lo hi n ≠ 0 ∧ v = lo ∧ B' 53 7 = nuK b L lo hi n ∧ B' 53 8 = tS b L n))) := by
  have h := M_other d (lo := lo) (hi := hi) (so := 0) tp hn lk
  rw [ot_0] at h
  exact h
/-- how a line's middle ends -/
def MoM (B : mMem) (b : Int → Int) (L : Int) (B' : mMem) (R : Int × Int × Int × Sig) : Prop := GFr B' B ∧ ((∃ (m : Int) (q : Sig), (0 ≤ m ∧ m ≤ L) ∧ LkM B' b L m ∧ PgT B' q ∧ (stK b L m = 0 → R = (0, 0, tE b L m, q)) ∧ (stK b L m ≠ 0 → R.1 = stK b L m ∧ R.2.1 = tS b L m)) ∨ (0 < R.1 ∧ B' 53 7 = R.1 ∧ B' 53 8 = R.2.1))
theorem M_row (d : Nat) {B : mMem} {b : Int → Int} {L n : Int} {q : Sig} (tp : TpM B b L) (hn : 0 ≤ n ∧ n ≤ L) (lk : LkM B b L n) (h : PgT B q) : mN3 (d + 4) 123 [vr 53] B (fun B' => MoM B b L B' (rwP b L n q)) := by
  have er := (tE_rng (b := b) hn).2.1
  have sr := (tE_rng (b := b) hn).1
  refine mN3_i ⟨by decide, Nat.le_of_ble_eq_true rfl⟩ (fun K hK => q_M_readRow_0 hK B ?_)
  rw [h.2.2.2.2.2.2.1]
  refine cI (M_other d tp hn lk) (fun v B1 p => ?_)
  obtain ⟨f, p⟩ := p
  have eR : rwP b L n q = if otK b L 0 5 q.2.2.2.2.1 n ≠ 0 then (otK b L 0 5 q.2.2.2.2.1 n, tS b L n, n, q) else ((roP b L (tV b L n) 7 0 (tE b L n) q.1).1, (roP b L (tV b L n) 7 0 (tE b L n) q.1).2.1, (roP b L (tV b L n) 7 0 (tE b L n) q.1).2.2.1, ((roP b L (tV b L n) 7 0 (tE b L n) q.1).2.2.2, q.2.1, q.2.2.1, q.2.2.2.1, jor q.2.2.2.2.1 (jshl 1 (tV b L n)), q.2.2.2.2.2)) := rfl
  generalize rwP b L n q = R at *
  have h1 := PgT_m h f
  rw [h1.2.2.2.2.2.2.1]
  have dead : ∀ (x y : Int) (B2 : mMem), 0 < R.1 → B2 53 7 = R.1 → B2 53 8 = R.2.1 → GFr B2 B → K 25 [(0, vr 53), (1, vi y), (2, vi x)] [] (S0, B2) := by
    intro x y B2 r1 a7 a8 gf
    exact q_M_readRow_25 hK y x B2 (br_t (by omega) (rN_i ⟨gf, Or.inr ⟨r1, a7, a8⟩⟩))
  rcases p with ⟨k0, ev, vb, lk1⟩ | ⟨k1, ev, e7, e8⟩
  · rw [if_neg (fun w => w k0)] at eR
    rw [ev]
    rw [ev] at vb
    generalize tV b L n = y at *
    generalize jor q.2.2.2.2.1 (jshl 1 y) = s2 at *
    generalize hr : roP b L y 7 0 (tE b L n) q.1 = r at eR
    have loop : ∀ (j : Nat) (x m : Int) (g : Int → Int), x + j = 6 → 0 ≤ x → 0 ≤ m → m ≤ L → roP b L y (j + 1) x m g = r → ∀ B2 : mMem, GFr B2 B → LkM B2 b L m → PgT B2 (g, q.2.1, q.2.2.1, q.2.2.2.1, s2, q.2.2.2.2.2) → K 25 [(0, vr 53), (1, vi y), (2, vi x)] [] (S0, B2) := by
      intro j
      induction j with
      | zero =>
        intro x m g hx x0 m0 m1 he B2 gf lk2 pg
        have lk3 := lk2
        obtain ⟨l10, lk2⟩ := lk2
        have eS : stK b L m = if tB b L m ≠ 0 then 1 else if tT b L m ≠ 3 then 2 else 0 := rfl
        rw [roP_s] at he
        rcases lk2 with ⟨b0, e7, e11, e9, e12⟩ | ⟨b1, e7, e8⟩
        · rw [if_neg (fun w => w b0)] at he eS
          refine q_M_readRow_25 hK y x B2 (br_f (fun w => w e7) ⟨fun w => rN_i ⟨gf, Or.inl ⟨m, _, ⟨m0, m1⟩, lk3, pg, ?_, ?_⟩⟩, fun w => ?_⟩)
          · intro z
            by_cases t3 : tT b L m = 3
            · rw [if_pos t3] at he
              rw [eR, ← he]
            · rw [if_pos t3] at eS
              omega
          · intro z
            by_cases t3 : tT b L m = 3
            · rw [if_neg (fun w => w t3)] at eS
              omega
            · rw [if_pos t3] at eS
              rw [e11] at w
              rw [if_neg t3, if_pos w] at he
              rw [eR, ← he]
              exact ⟨eS.symm, rfl⟩
          · rw [e11] at w
            have w := Decidable.not_not.mp w
            rw [if_neg (by omega), if_neg (fun z => z w), if_pos (by omega)] at he
            refine br_f (fun z => z (by omega)) (cN (M_fails (d + 2) B2 5) (fun B3 p3 => ?_))
            rcases p3.2.2.2.2.2 with ⟨u, _⟩ | ⟨_, u1, u2⟩
            · exact absurd e7 u
            · exact dead x y B3 (by rw [eR, ← he]; show (0 : Int) < 5; decide) (by rw [eR, ← he, u1]) (by rw [eR, ← he, u2, l10]) (GFr_trans (GFr_m p3.1) gf)
        · rw [if_pos b1] at he eS
          refine q_M_readRow_25 hK y x B2 (br_t (by omega) (rN_i ⟨gf, Or.inl ⟨m, _, ⟨m0, m1⟩, lk3, pg, fun z => by omega, fun z => ?_⟩⟩))
          rw [eR, ← he]
          exact ⟨eS.symm, rfl⟩
      | succ j ih =>
        intro x m g hx x0 m0 m1 he B2 gf lk2 pg
        have lk3 := lk2
        obtain ⟨l10, lk2⟩ := lk2
        have eS : stK b L m = if tB b L m ≠ 0 then 1 else if tT b L m ≠ 3 then 2 else 0 := rfl
        have mr := tE_rng (b := b) (L := L) (n := m) ⟨m0, m1⟩
        rw [roP_s] at he
        rcases lk2 with ⟨b0, e7, e11, e9, e12⟩ | ⟨b1, e7, e8⟩
        · rw [if_neg (fun w => w b0)] at he eS
          refine q_M_readRow_25 hK y x B2 (br_f (fun w => w e7) ⟨fun w => rN_i ⟨gf, Or.inl ⟨m, _, ⟨m0, m1⟩, lk3, pg, ?_, ?_⟩⟩, fun w => ?_⟩)
          · intro z
            by_cases t3 : tT b L m = 3
            · rw [if_pos t3] at he
              rw [eR, ← he]
            · rw [if_pos t3] at eS
              omega
          · intro z
            by_cases t3 : tT b L m = 3
            · rw [if_neg (fun w => w t3)] at eS
              omega
            · rw [if_pos t3] at eS
              rw [e11] at w
              rw [if_neg t3, if_pos w] at he
              rw [eR, ← he]
              exact ⟨eS.symm, rfl⟩
          · rw [e11] at w
            have w := Decidable.not_not.mp w
            rw [if_neg (by omega), if_neg (fun z => z w), if_neg (by omega)] at he
            have vrg := tV_rng (b := b) tp.2.2.2 ⟨m0, m1⟩ b0 w
            have eN : nuK b L 0 4 m = if tB b L m ≠ 0 then 1 else if tT b L m ≠ 2 then 2 else if tV b L m < 0 ∨ 4 < tV b L m then 3 else 0 := rfl
            rw [if_neg (fun z => z b0), if_neg (fun z => z w)] at eN
            have wi : w32 (w32 (6 * x) + y) = 6 * x + y := by
              rw [w32_s (z := 6 * x) (by omega) (by omega), w32_s (by omega) (by omega)]
            have wx : w32 (x + 1) = x + 1 := w32_s (by omega) (by omega)
            refine br_t (by omega) (cI (M_num d (TpM_g tp gf) ⟨m0, m1⟩ lk3) (fun v2 B3 p3 => ?_))
            obtain ⟨f3, p3⟩ := p3
            rw [wi, wx]
            refine mIn_i (by omega) (by omega) ?_
            have gf3 : GFr (mupd B3 55 (6 * x + y) v2) B := GFr_5 (GFr_trans (GFr_m f3) gf)
            rcases p3 with ⟨k2, ev2, vb2, lk4⟩ | ⟨k2, ev2, g7, g8⟩
            · by_cases v4 : 4 < tV b L m
              · rw [if_pos (by omega)] at eN
                omega
              · rw [if_neg v4, ← ev2] at he
                refine ih (x + 1) (tE b L m) _ (by omega) (by omega) (by omega) mr.2.1.2 he _ gf3 (LkM_5 lk4) ?_
                obtain ⟨g1, g2, g3, g4, g5, g6, g7, g8⟩ := PgT_m pg f3
                have eu : mupd B3 55 (6 * x + y) v2 55 = fup (B3 55) (6 * x + y) v2 := mupd_at _ _ _ _
                refine ⟨?_, ?_, ?_, ?_, ?_, g6, ?_, ?_⟩
                · intro i a c
                  rw [eu]
                  show fup (B3 55) (6 * x + y) v2 i = fup g (6 * x + y) v2 i
                  unfold fup
                  rw [g1 i a c]
                · intro c a z
                  rw [eu, fup_ne _ _ (by omega)]
                  exact g2 c a z
                · rw [eu, fup_ne _ _ (by omega)]
                  exact g3
                · intro l z a1 a2 a3 a4
                  rw [eu, fup_ne _ _ (by omega)]
                  exact g4 l z a1 a2 a3 a4
                · rw [eu, fup_ne _ _ (by omega)]
                  exact g5
                · rw [mupd_ne _ _ _ (by decide)]
                  exact g7
                · rw [mupd_ne _ _ _ (by decide)]
                  exact g8
            · by_cases v4 : 4 < tV b L m
              · rw [if_pos (by omega)] at eN
                rw [if_pos v4] at he
                refine dead _ y _ (by rw [eR, ← he]; show (0 : Int) < 3; decide) ?_ ?_ gf3
                · rw [mupd_ne _ _ _ (by decide), g7, eN, eR, ← he]
                · rw [mupd_ne _ _ _ (by decide), g8, eR, ← he]
              · rw [if_neg (by omega)] at eN
                exact absurd eN k2
        · rw [if_pos b1] at he eS
          refine q_M_readRow_25 hK y x B2 (br_t (by omega) (rN_i ⟨gf, Or.inl ⟨m, _, ⟨m0, m1⟩, lk3, pg, fun z => by omega, fun z => ?_⟩⟩))
          rw [eR, ← he]
          exact ⟨eS.symm, rfl⟩
    refine loop 6 0 (tE b L n) q.1 (by omega) (by omega) (by omega) er.2 hr _ (GFr_2 (GFr_m f) (Or.inl rfl)) (LkM_2 lk1 (Or.inl rfl)) ?_
    obtain ⟨g1, g2, g3, g4, g5, g6, g7, g8⟩ := h1
    unfold PgT
    rw [mupd_ne _ _ _ (by decide), mupd_at, fup_at, fup_ne _ _ (by decide)]
    exact ⟨g1, g2, g3, g4, g5, g6, rfl, g8⟩
  · rw [if_pos k1] at eR
    refine dead 0 v _ (by rw [eR]; exact ot_pos k1) ?_ ?_ (GFr_2 (GFr_m f) (Or.inl rfl))
    · rw [mupd_at, fup_ne _ _ (by decide), e7, eR]
    · rw [mupd_at, fup_ne _ _ (by decide), e8, eR]
end
section
/-! PURE PROOFS 77: a line, the other -/
theorem M_more4 (d : Nat) {B : mMem} {b : Int → Int} {L n : Int} {q : Sig} (tp : TpM B b L) (hn : 0 ≤ n ∧ n ≤ L) (lk : LkM B b L n) (h : PgT B q) : mN3 (d + 5) 124 [vr 53, vi 4] B (fun B' => MoM B b L B' (rwP b L n q)) :=
  mN3_i ⟨by decide, Nat.le_of_ble_eq_true rfl⟩ (fun K hK => q_M_readMore_0 hK 4 B (br_t (by decide) (br_f (fun w => w rfl) (cN (M_row d tp hn lk h) (fun B1 p => rN_i p)))))
theorem M_more5 (d : Nat) {B : mMem} {b : Int → Int} {L n : Int} {q : Sig} (tp : TpM B b L) (hn : 0 ≤ n ∧ n ≤ L) (lk : LkM B b L n) (h : PgT B q) : mN3 (d + 5) 124 [vr 53, vi 5] B (fun B' => MoM B b L B' (thP b L n q)) := by
  have er := tE_rng (b := b) hn
  have er2 := tE_rng (b := b) (L := L) (n := tE b L n) ⟨by omega, er.2.1.2⟩
  refine mN3_i ⟨by decide, Nat.le_of_ble_eq_true rfl⟩ (fun K hK => q_M_readMore_0 hK 5 B (br_t (by decide) (br_t (by decide) ?_)))
  rw [h.2.2.2.2.2.2.2]
  refine cI (M_other (d + 1) tp hn lk) (fun v B1 p => ?_)
  obtain ⟨f, p⟩ := p
  have eR : thP b L n q = if otK b L 1 3 q.2.2.2.2.2 n ≠ 0 then (otK b L 1 3 q.2.2.2.2.2 n, tS b L n, n, q) else if nuK b L 0 99 (tE b L n) ≠ 0 then (nuK b L 0 99 (tE b L n), tS b L (tE b L n), n, q) else if stK b L (tE b L (tE b L n)) ≠ 0 then (stK b L (tE b L (tE b L n)), tS b L (tE b L (tE b L n)), n, q) else (0, 0, tE b L (tE b L (tE b L n)), (q.1, fup q.2.1 (tV b L n) (tV b L (tE b L n)), q.2.2.1, q.2.2.2.1, q.2.2.2.2.1, jor q.2.2.2.2.2 (jshl 1 (tV b L n)))) := rfl
  generalize thP b L n q = R at *
  have h1 := PgT_m h f
  rw [h1.2.2.2.2.2.2.2]
  rcases p with ⟨k0, ev, vb, lk1⟩ | ⟨k1, ev, e7, e8⟩
  · rw [if_neg (fun w => w k0)] at eR
    rw [ev]
    rw [ev] at vb
    generalize tV b L n = y at *
    generalize jor q.2.2.2.2.2 (jshl 1 y) = s3 at *
    have gf1 : GFr (mupd B1 53 3 s3) B := GFr_2 (GFr_m f) (Or.inr rfl)
    refine cI (M_num (d + 1) (TpM_g tp gf1) ⟨by omega, er.2.1.2⟩ (LkM_2 lk1 (Or.inr rfl))) (fun v2 B2 p2 => ?_)
    obtain ⟨f2, p2⟩ := p2
    have gf2 := GFr_trans (GFr_m f2) gf1
    have wi : w32 (w32 (36 + y) - 1) = 35 + y := by
      rw [w32_s (z := 36 + y) (by omega) (by omega), w32_s (by omega) (by omega)]
      omega
    rw [wi]
    refine mIn_i (by omega) (by omega) ?_
    rcases p2 with ⟨k2, ev2, vb2, lk2⟩ | ⟨k2, ev2, g7, g8⟩
    · rw [if_neg (fun w => w k2)] at eR
      have w20 : w32 (v2 - 20) = v2 - 20 := w32_s (by omega) (by omega)
      rw [w20]
      have pg2 : PgT B2 (q.1, q.2.1, q.2.2.1, q.2.2.2.1, q.2.2.2.2.1, s3) := by
        refine PgT_m ?_ f2
        obtain ⟨g1, g2, g3, g4, g5, g6, g7, g8⟩ := h1
        unfold PgT
        rw [mupd_ne _ _ _ (by decide), mupd_at, fup_at, fup_ne _ _ (by decide)]
        exact ⟨g1, g2, g3, g4, g5, g6, g7, rfl⟩
      refine rN_i ⟨GFr_5 gf2, Or.inl ⟨tE b L (tE b L n), (q.1, fup q.2.1 y v2, q.2.2.1, q.2.2.2.1, q.2.2.2.2.1, s3), ⟨by omega, er2.2.1.2⟩, LkM_5 lk2, ?_, fun z => ?_, fun z => ?_⟩⟩
      · obtain ⟨g1, g2, g3, g4, g5, g6, g7, g8⟩ := pg2
        have eu : mupd B2 55 (35 + y) (v2 - 20) 55 = fup (B2 55) (35 + y) (v2 - 20) := mupd_at _ _ _ _
        refine ⟨?_, ?_, ?_, ?_, ?_, g6, ?_, ?_⟩
        · intro i a c
          rw [eu, fup_ne _ _ (by omega)]
          exact g1 i a c
        · intro c a z
          rw [eu]
          show fup (B2 55) (35 + y) (v2 - 20) (35 + c) + 20 = fup q.2.1 y v2 c
          by_cases zc : c = y
          · rw [zc, fup_at, fup_at]
            omega
          · rw [fup_ne _ _ (by omega), fup_ne _ _ zc]
            exact g2 c a z
        · rw [eu, fup_ne _ _ (by omega)]
          exact g3
        · intro l z a1 a2 a3 a4
          rw [eu, fup_ne _ _ (by omega)]
          exact g4 l z a1 a2 a3 a4
        · rw [eu, fup_ne _ _ (by omega)]
          exact g5
        · rw [mupd_ne _ _ _ (by decide)]
          exact g7
        · rw [mupd_ne _ _ _ (by decide)]
          exact g8
      · rw [if_neg (fun w => w z), ← ev2] at eR
        exact eR
      · rw [if_pos z] at eR
        rw [eR]
        exact ⟨rfl, rfl⟩
    · rw [if_pos k2] at eR
      refine rN_i ⟨GFr_5 gf2, Or.inr ⟨by rw [eR]; exact nu_pos k2, ?_, ?_⟩⟩
      · rw [mupd_ne _ _ _ (by decide), g7, eR]
      · rw [mupd_ne _ _ _ (by decide), g8, eR]
  · rw [if_pos k1] at eR
    rw [ev]
    have op := ot_pos k1
    generalize jor q.2.2.2.2.2 (jshl 1 1) = s3 at *
    refine ⟨_, _, M_other0 (d + 1) (by rw [mupd_at, fup_ne _ _ (by decide), e7]; exact op), ?_⟩
    have wi : w32 (w32 (36 + 1) - 1) = 36 := by decide
    rw [wi]
    refine mIn_i (by omega) (by omega) (rN_i ⟨GFr_5 (GFr_2 (GFr_m f) (Or.inr rfl)), Or.inr ⟨by rw [eR]; exact op, ?_, ?_⟩⟩)
    · rw [mupd_ne _ _ _ (by decide), mupd_at, fup_ne _ _ (by decide), e7, eR]
    · rw [mupd_ne _ _ _ (by decide), mupd_at, fup_ne _ _ (by decide), e8, eR]
theorem M_more3 (d : Nat) {B : mMem} {b : Int → Int} {L n p kd : Int} {q : Sig} (tp : TpM B b L) (hn : 0 ≤ n ∧ n ≤ L) (lk : LkM B b L n) (h : PgT B q) (hk : 0 ≤ kd ∧ kd ≤ 3) (h5 : q.2.2.2.1 < 5) : mN3 (d + 5) 124 [vr 53, vi kd] B (fun B' => MoM B b L B' (laP b L kd p n q)) := by
  have er := tE_rng (b := b) hn
  have er2 := tE_rng (b := b) (L := L) (n := tE b L n) ⟨by omega, er.2.1.2⟩
  have er3 := tE_rng (b := b) (L := L) (n := tE b L (tE b L n)) ⟨by omega, er2.2.1.2⟩
  have eR : laP b L kd p n q = if 5 ≤ q.2.2.2.1 then (5, p, n, q) else if nuK b L 1 3 n ≠ 0 then (nuK b L 1 3 n, tS b L n, n, q) else if nuK b L 1 3 (tE b L n) ≠ 0 then (nuK b L 1 3 (tE b L n), tS b L (tE b L n), n, q) else if nuK b L 1 9 (tE b L (tE b L n)) ≠ 0 then (nuK b L 1 9 (tE b L (tE b L n)), tS b L (tE b L (tE b L n)), n, q) else if stK b L (tE b L (tE b L (tE b L n))) ≠ 0 then (stK b L (tE b L (tE b L (tE b L n))), tS b L (tE b L (tE b L (tE b L n))), n, q) else (0, 0, tE b L (tE b L (tE b L (tE b L n))), (q.1, q.2.1, laW q.2.2.1 q.2.2.2.1 kd (tV b L n) (tV b L (tE b L n)) (tV b L (tE b L (tE b L n))), q.2.2.2.1 + 1, q.2.2.2.2.1, q.2.2.2.2.2)) := rfl
  generalize laP b L kd p n q = R at *
  rw [if_neg (by omega)] at eR
  have c0 := h.2.2.2.2.2.1.1
  have e39 := h.2.2.1
  obtain ⟨c, hc⟩ : ∃ c : Int, c = q.2.2.2.1 := ⟨_, rfl⟩
  rw [← hc] at e39 c0 h5
  have w0 : w32 (40 + c) = 40 + c := w32_s (by omega) (by omega)
  have w1 : w32 (45 + c) = 45 + c := w32_s (by omega) (by omega)
  have w2 : w32 (50 + c) = 50 + c := w32_s (by omega) (by omega)
  have w3 : w32 (55 + c) = 55 + c := w32_s (by omega) (by omega)
  have wc : w32 (c + 1) = c + 1 := w32_s (by omega) (by omega)
  refine mN3_i ⟨by decide, Nat.le_of_ble_eq_true rfl⟩ (fun K hK => q_M_readMore_0 hK kd B (br_f (by omega) ?_))
  rw [e39, w0, w1, w2, w3]
  have gf0 : GFr (mupd B 55 (40 + c) kd) B := GFr_5 (GFr_refl B)
  have u7 : ∀ (A : mMem) (i v x : Int), mupd A 55 i v 53 x = A 53 x := fun A i v x => by rw [mupd_ne _ _ _ (by decide)]
  refine mIn_i (by omega) (by omega) (cI (M_num (d + 1) (TpM_g tp gf0) hn (LkM_5 lk)) (fun v1 B1 p1 => ?_))
  obtain ⟨f1, p1⟩ := p1
  have gf1 : GFr (mupd B1 55 (45 + c) v1) B := GFr_5 (GFr_trans (GFr_m f1) gf0)
  refine mIn_i (by omega) (by omega) ?_
  rcases p1 with ⟨k1, ev1, vb1, lk1⟩ | ⟨k1, ev1, e7, e8⟩
  · rw [if_neg (fun w => w k1)] at eR
    refine cI (M_num (d + 1) (TpM_g tp gf1) ⟨by omega, er.2.1.2⟩ (LkM_5 lk1)) (fun v2 B2 p2 => ?_)
    obtain ⟨f2, p2⟩ := p2
    have gf2 : GFr (mupd B2 55 (50 + c) v2) B := GFr_5 (GFr_trans (GFr_m f2) gf1)
    refine mIn_i (by omega) (by omega) ?_
    rcases p2 with ⟨k2, ev2, vb2, lk2⟩ | ⟨k2, ev2, e7, e8⟩
    · rw [if_neg (fun w => w k2)] at eR
      refine cI (M_num (d + 1) (TpM_g tp gf2) ⟨by omega, er2.2.1.2⟩ (LkM_5 lk2)) (fun v3 B3 p3 => ?_)
      obtain ⟨f3, p3⟩ := p3
      have gf3 : GFr (mupd B3 55 (55 + c) v3) B := GFr_5 (GFr_trans (GFr_m f3) gf2)
      refine mIn_i (by omega) (by omega) ?_
      have r1 : B1 55 = fup (B 55) (40 + c) kd := by rw [f1.1 55 (by decide), mupd_at]
      have r2 : B2 55 = fup (fup (B 55) (40 + c) kd) (45 + c) v1 := by rw [f2.1 55 (by decide), mupd_at, r1]
      have r3 : B3 55 = fup (fup (fup (B 55) (40 + c) kd) (45 + c) v1) (50 + c) v2 := by rw [f3.1 55 (by decide), mupd_at, r2]
      have r4 : mupd B3 55 (55 + c) v3 55 = fup (fup (fup (fup (B 55) (40 + c) kd) (45 + c) v1) (50 + c) v2) (55 + c) v3 := by rw [mupd_at, r3]
      have s39 : mupd B3 55 (55 + c) v3 55 39 = c := by rw [r4, fup_ne _ _ (by omega), fup_ne _ _ (by omega), fup_ne _ _ (by omega), fup_ne _ _ (by omega), e39]
      rw [s39, wc]
      have s2 : mupd B3 55 (55 + c) v3 53 2 = B 53 2 := by rw [u7, f3.2 2 (by omega), u7, f2.2 2 (by omega), u7, f1.2 2 (by omega), u7]
      have s3 : mupd B3 55 (55 + c) v3 53 3 = B 53 3 := by rw [u7, f3.2 3 (by omega), u7, f2.2 3 (by omega), u7, f1.2 3 (by omega), u7]
      rcases p3 with ⟨k3, ev3, vb3, lk3⟩ | ⟨k3, ev3, e7, e8⟩
      · rw [if_neg (fun w => w k3), ← ev1, ← ev2, ← ev3] at eR
        have lk4 := LkM_5 (i := 39) (v := c + 1) (LkM_5 (i := 55 + c) (v := v3) lk3)
        generalize mupd B3 55 (55 + c) v3 = N at *
        refine rN_i ⟨GFr_5 gf3, Or.inl ⟨_, (q.1, q.2.1, laW q.2.2.1 q.2.2.2.1 kd v1 v2 v3, q.2.2.2.1 + 1, q.2.2.2.2.1, q.2.2.2.2.2), ⟨by omega, er3.2.1.2⟩, lk4, ?_, fun z => ?_, fun z => ?_⟩⟩
        · obtain ⟨g1, g2, g3, g4, g5, g6, g7, g8⟩ := h
          rw [← hc] at g4 g6
          rw [← hc]
          have ei : ∀ i : Int, i ≠ 39 → i ≠ 40 + c → i ≠ 45 + c → i ≠ 50 + c → i ≠ 55 + c → mupd N 55 39 (c + 1) 55 i = B 55 i := fun i a0 a1 a2 a3 a4 => by rw [mupd_at, fup_ne _ _ a0, r4, fup_ne _ _ a4, fup_ne _ _ a3, fup_ne _ _ a2, fup_ne _ _ a1]
          have d0 : mupd N 55 39 (c + 1) 55 (40 + c) = kd := by rw [mupd_at, fup_ne _ _ (by omega), r4, fup_ne _ _ (by omega), fup_ne _ _ (by omega), fup_ne _ _ (by omega), fup_at]
          have d1 : mupd N 55 39 (c + 1) 55 (45 + c) = v1 := by rw [mupd_at, fup_ne _ _ (by omega), r4, fup_ne _ _ (by omega), fup_ne _ _ (by omega), fup_at]
          have d2 : mupd N 55 39 (c + 1) 55 (50 + c) = v2 := by rw [mupd_at, fup_ne _ _ (by omega), r4, fup_ne _ _ (by omega), fup_at]
          have d3 : mupd N 55 39 (c + 1) 55 (55 + c) = v3 := by rw [mupd_at, fup_ne _ _ (by omega), r4, fup_at]
          refine ⟨?_, ?_, ?_, ?_, ?_, ?_, ?_, ?_⟩
          · intro i a z
            rw [ei i (by omega) (by omega) (by omega) (by omega) (by omega)]
            exact g1 i a z
          · intro i a z
            rw [ei (35 + i) (by omega) (by omega) (by omega) (by omega) (by omega)]
            exact g2 i a z
          · rw [mupd_at, fup_at]
          · intro l x l0 l1 x0 x1
            have l1 : l < c + 1 := l1
            show mupd N 55 39 (c + 1) 55 (40 + 5 * x + l) = fup (fup (fup (fup q.2.2.1 (4 * c) kd) (4 * c + 1) v1) (4 * c + 2) v2) (4 * c + 3) v3 (4 * l + x)
            by_cases lc : l < c
            · rw [ei _ (by omega) (by omega) (by omega) (by omega) (by omega), fup_ne _ _ (by omega), fup_ne _ _ (by omega), fup_ne _ _ (by omega), fup_ne _ _ (by omega)]
              exact g4 l x l0 lc x0 x1
            · have le : l = c := by omega
              rw [le]
              have xs : x = 0 ∨ x = 1 ∨ x = 2 ∨ x = 3 := by omega
              rcases xs with x | x | x | x
              · rw [x, show (40 : Int) + 5 * 0 + c = 40 + c by omega, d0, show 4 * c + (0 : Int) = 4 * c by omega, fup_ne _ _ (by omega), fup_ne _ _ (by omega), fup_ne _ _ (by omega), fup_at]
              · rw [x, show (40 : Int) + 5 * 1 + c = 45 + c by omega, d1, fup_ne _ _ (by omega), fup_ne _ _ (by omega), fup_at]
              · rw [x, show (40 : Int) + 5 * 2 + c = 50 + c by omega, d2, fup_ne _ _ (by omega), fup_at]
              · rw [x, show (40 : Int) + 5 * 3 + c = 55 + c by omega, d3, fup_at]
          · rw [ei 60 (by omega) (by omega) (by omega) (by omega) (by omega)]
            exact g5
          · show 0 ≤ c + 1 ∧ c + 1 ≤ 5
            omega
          · rw [u7, s2]
            exact g7
          · rw [u7, s3]
            exact g8
        · rw [if_neg (fun w => w z)] at eR
          exact eR
        · rw [if_pos z] at eR
          rw [eR]
          exact ⟨rfl, rfl⟩
      · rw [if_pos k3] at eR
        refine rN_i ⟨GFr_5 gf3, Or.inr ⟨by rw [eR]; exact nu_pos k3, ?_, ?_⟩⟩
        · rw [u7, u7, e7, eR]
        · rw [u7, u7, e8, eR]
    · rw [if_pos k2] at eR
      refine ⟨_, _, M_other0 (d + 1) (by rw [u7, e7]; exact nu_pos k2), mIn_i (by omega) (by omega) (rN_i ⟨GFr_5 (GFr_5 gf2), Or.inr ⟨by rw [eR]; exact nu_pos k2, ?_, ?_⟩⟩)⟩
      · rw [u7, u7, u7, e7, eR]
      · rw [u7, u7, u7, e8, eR]
  · rw [if_pos k1] at eR
    refine ⟨_, _, M_other0 (d + 1) (by rw [u7, e7]; exact nu_pos k1), mIn_i (by omega) (by omega) ⟨_, _, M_other0 (d + 1) (by rw [u7, u7, e7]; exact nu_pos k1), mIn_i (by omega) (by omega) (rN_i ⟨GFr_5 (GFr_5 (GFr_5 gf1)), Or.inr ⟨by rw [eR]; exact nu_pos k1, ?_, ?_⟩⟩)⟩⟩
    · rw [u7, u7, u7, u7, e7, eR]
    · rw [u7, u7, u7, u7, e8, eR]
end
section
/-! PURE PROOFS 78: a line, the other, whole -/
theorem nm_rng (b : Int → Int) (s e : Int) : ∀ (j n : Nat), n + j ≤ 6 → nmN b s e j n = -4 ∨ (0 ≤ nmN b s e j n ∧ nmN b s e j n ≤ 5) := by
  intro j
  induction j with
  | zero =>
    intro n _
    exact Or.inl rfl
  | succ j ih =>
    intro n hn
    rw [nmN_s]
    split
    · exact Or.inr ⟨by omega, by omega⟩
    · exact ih (n + 1) (by omega)
theorem nu_bad {b : Int → Int} {L lo hi n : Int} (h : tB b L n ≠ 0) : nuK b L lo hi n = 1 := by
  unfold nuK
  rw [if_pos h]
theorem ot_bad {b : Int → Int} {L lo hi so n : Int} (h : tB b L n ≠ 0) : otK b L lo hi so n = 1 := by
  unfold otK
  rw [nu_bad h, if_pos (by decide)]
def LnM (B : mMem) (b : Int → Int) (L : Int) (B' : mMem) (R : Int × Int × Int × Sig) : Prop := GFr B' B ∧ ((R.1 = 0 ∧ LkM B' b L R.2.2.1 ∧ PgT B' R.2.2.2) ∨ (0 < R.1 ∧ B' 53 7 = R.1 ∧ B' 53 8 = R.2.1))
theorem M_line (d : Nat) {B : mMem} {b : Int → Int} {L n : Int} {q : Sig} (tp : TpM B b L) (hn : 0 ≤ n ∧ n ≤ L) (lk : LkM B b L n) (hb : tB b L n = 0) (h : PgT B q) (h57 : B 57 = M0 57) (h58 : B 58 = M0 58) : mN3 (d + 6) 125 [vr 53] B (fun B' => LnM B b L B' (liP b L n q)) := by
  have er := tE_rng (b := b) hn
  have er2 := tE_rng (b := b) (L := L) (n := tE b L n) ⟨by omega, er.2.1.2⟩
  have eR : liP b L n q = if tT b L n ≠ 1 ∨ nmN b (tS b L n) (tE b L n) 6 0 < 0 then (2, tS b L n, n, q) else if nmN b (tS b L n) (tE b L n) 6 0 = 4 then rwP b L (tE b L n) q else if nmN b (tS b L n) (tE b L n) 6 0 = 5 then thP b L (tE b L n) q else laP b L (nmN b (tS b L n) (tE b L n) 6 0) (tS b L n) (tE b L n) q := rfl
  have hs : 0 ≤ tS b L n ∧ tS b L n ≤ tE b L n ∧ tE b L n ≤ L := by omega
  have hm : 0 ≤ tE b L n ∧ tE b L n ≤ L := by omega
  have rg := nm_rng b (tS b L n) (tE b L n) 6 0 (by omega)
  generalize liP b L n q = R at *
  obtain ⟨l10, lk⟩ := lk
  rcases lk with ⟨_, e7, e11, e9, _⟩ | ⟨b1, _⟩
  · refine mN3_i ⟨by decide, Nat.le_of_ble_eq_true rfl⟩ (fun K hK => q_M_readLine_0 hK B ?_)
    have fl : R = (2, tS b L n, n, q) → ∃ m6, mR3 (d + 5) 119 [vr 53, vi 2] (S0, B) (none, (S0, m6)) ∧ rN (fun B' => LnM B b L B' R) none (S0, m6) := by
      intro w
      refine cN (M_fails (d + 4) B 2) (fun m p => ?_)
      rcases p.2.2.2.2.2 with ⟨u, _⟩ | ⟨_, u1, u2⟩
      · exact absurd e7 u
      · refine rN_i ⟨GFr_m p.1, Or.inr ⟨by rw [w]; show (0 : Int) < 2; decide, by rw [w, u1], by rw [w, u2, l10]⟩⟩
    by_cases t1 : tT b L n = 1
    · have nm := M_name (d + 3) (b := b) (L := L) (s := tS b L n) (e := tE b L n) tp h57 h58 e9 l10 hs (by rw [e11, t1])
      generalize nmN b (tS b L n) (tE b L n) 6 0 = k at *
      refine ⟨_, _, nm, _, _, R_in (d + 4) B _ _ _, fun w => ?_, fun w => ?_⟩
      · have w := b2_n0.mp w
        have kr : 0 ≤ k ∧ k ≤ 5 := by omega
        rw [if_neg (by omega)] at eR
        have c5 := h.2.2.2.2.2.1
        have e39 := h.2.2.1
        have k44 : (k ≤ 3 → q.2.2.2.1 < 5) → K 44 [(0, vr 53), (1, vi k)] [] (S0, B) := by
          intro kc
          refine q_M_readLine_44 hK k B (cN (M_next (d + 3) tp hm e7 e9) (fun B2 p2 => ?_))
          obtain ⟨f2, lk2⟩ := p2
          have lk3 := lk2
          obtain ⟨_, lk2⟩ := lk2
          rcases lk2 with ⟨b0, g7, _⟩ | ⟨b1, g7, g8⟩
          · have mo : mN3 (d + 5) 124 [vr 53, vi k] B2 (fun B' => MoM B2 b L B' R) := by
              by_cases k4 : k = 4
              · rw [if_pos k4] at eR
                rw [k4, eR]
                exact M_more4 d (TpM_fr tp f2) hm lk3 (PgT_m h f2)
              · rw [if_neg k4] at eR
                by_cases k5 : k = 5
                · rw [if_pos k5] at eR
                  rw [k5, eR]
                  exact M_more5 d (TpM_fr tp f2) hm lk3 (PgT_m h f2)
                · rw [if_neg k5] at eR
                  rw [eR]
                  exact M_more3 d (TpM_fr tp f2) hm lk3 (PgT_m h f2) (by omega) (kc (by omega))
            refine br_t (by omega) (cN mo (fun B3 p3 => ?_))
            obtain ⟨gf3, p3⟩ := p3
            have gf := GFr_trans gf3 (GFr_m f2)
            rcases p3 with ⟨m, q', mr, lk4, pg, s0, s1⟩ | ⟨r1, i7, i8⟩
            · obtain ⟨j10, lk4⟩ := lk4
              have mr2 := tE_rng (b := b) mr
              have eS : stK b L m = if tB b L m ≠ 0 then 1 else if tT b L m ≠ 3 then 2 else 0 := rfl
              rcases lk4 with ⟨m0, j7, j11, j9, _⟩ | ⟨m1, j7, j8⟩
              · rw [if_neg (fun w => w m0)] at eS
                refine br_f (fun w => w j7) ⟨fun w => cN (M_next (d + 3) (TpM_g tp gf) (n := tE b L m) ⟨by omega, mr2.2.1.2⟩ j7 j9) (fun B4 p4 => ?_), fun w => cN (M_fails (d + 4) B3 2) (fun B4 p4 => ?_)⟩
                · rw [j11] at w
                  rw [if_neg (fun z => z w)] at eS
                  have eq := s0 eS
                  exact rN_i ⟨GFr_trans (GFr_m p4.1) gf, Or.inl ⟨by rw [eq], by rw [eq]; exact p4.2, by rw [eq]; exact PgT_m pg p4.1⟩⟩
                · rw [j11] at w
                  rw [if_pos w] at eS
                  have eq := s1 (by omega)
                  rcases p4.2.2.2.2.2 with ⟨u, _⟩ | ⟨_, u1, u2⟩
                  · exact absurd j7 u
                  · exact ⟨_, M_next0 (d + 3) (by omega), rN_i ⟨GFr_trans (GFr_m p4.1) gf, Or.inr ⟨by omega, by omega, by rw [eq.2, u2, j10]⟩⟩⟩
              · rw [if_pos m1] at eS
                have eq := s1 (by omega)
                exact br_t (by omega) ⟨_, M_next0 (d + 3) (by omega), rN_i ⟨gf, Or.inr ⟨by omega, by omega, by rw [eq.2, j8]⟩⟩⟩
            · exact br_t (by omega) ⟨_, M_next0 (d + 3) (by omega), rN_i ⟨gf, Or.inr ⟨r1, i7, i8⟩⟩⟩
          · have bad : R.1 = 1 ∧ R.2.1 = tS b L (tE b L n) := by
              by_cases k4 : k = 4
              · rw [if_pos k4] at eR
                rw [eR]
                unfold rwP
                rw [ot_bad b1, if_pos (by decide)]
                exact ⟨rfl, rfl⟩
              · rw [if_neg k4] at eR
                by_cases k5 : k = 5
                · rw [if_pos k5] at eR
                  rw [eR]
                  unfold thP
                  rw [ot_bad b1, if_pos (by decide)]
                  exact ⟨rfl, rfl⟩
                · rw [if_neg k5] at eR
                  rw [eR]
                  unfold laP
                  have z := kc (by omega)
                  rw [if_neg (by omega), nu_bad b1, if_pos (by decide)]
                  exact ⟨rfl, rfl⟩
            exact br_f (by omega) (rN_i ⟨GFr_m f2, Or.inr ⟨by omega, by omega, by rw [bad.2, g8]⟩⟩)
        refine ⟨fun z => k44 (fun y => by omega), fun z => ⟨fun y => k44 (fun _ => by omega), fun y => cN (M_fails (d + 4) B 5) (fun m p => ?_)⟩⟩
        rcases p.2.2.2.2.2 with ⟨u, _⟩ | ⟨_, u1, u2⟩
        · exact absurd e7 u
        · rw [if_neg (by omega), if_neg (by omega)] at eR
          have la : laP b L k (tS b L n) (tE b L n) q = (5, tS b L n, tE b L n, q) := by
            unfold laP
            rw [if_pos (by omega)]
          rw [la] at eR
          exact q_M_readLine_44 hK k m ⟨_, M_next0 (d + 3) (by omega), br_f (by omega) (rN_i ⟨GFr_m p.1, Or.inr ⟨by rw [eR]; show (0 : Int) < 5; decide, by rw [eR, u1], by rw [eR, u2, l10]⟩⟩)⟩
      · have w := b2_0.mp (Decidable.not_not.mp w)
        rw [if_pos (by omega)] at eR
        exact fl eR
    · have nm : mR3 (d + 5) 120 [vr 53] (S0, B) (some (vi (-4)), (S0, B)) := ⟨⟨by decide, Nat.le_of_ble_eq_true rfl⟩, fun K hK => q_M_nameHere_0 hK B (q_M_nameHere_2 hK 0 B (br_f (by decide) (br_t (by rw [e11]; exact t1) (mret_i rfl rfl))))⟩
      rw [if_pos (Or.inl t1)] at eR
      exact ⟨_, _, nm, _, _, R_in (d + 4) B _ _ _, br_f (fun w => w (b2_0.mpr (by omega))) (fl eR)⟩
  · exact absurd hb b1
end
section
/-! PURE PROOFS 79: text -/
def TxM (B B' : mMem) (v : Int) (r : Int × Int × Int × Sig) : Prop := (∀ k : Nat, k ≠ 53 → k ≠ 54 → k ≠ 55 → k ≠ 63 → B' k = B k) ∧ (∀ x : Int, 12 < x → x ≠ 22 → B' 53 x = B 53 x) ∧ B' 53 5 = 0 ∧ B' 53 6 = r.1 ∧ (∀ i : Int, 85 ≤ i → B' 54 i = B 54 i) ∧ ((r.1 = 0 ∧ v = r.2.2.1 ∧ B' 53 22 = 0 ∧ B' 63 0 = 0 ∧ B' 63 1 = 0 ∧ ∃ N : mMem, PgT N r.2.2.2 ∧ ∀ i : Int, 0 ≤ i → i < 85 → B' 54 i = N 55 i) ∨ (0 < r.1 ∧ v = w32 ((-10) - r.2.1) ∧ B' 53 22 = B 53 22 ∧ B' 63 = B 63 ∧ B' 54 = B 54))
theorem M_text {B : mMem} {b : Int → Int} {L : Int} (tp : TpM B b L) (h57 : B 57 = M0 57) (h58 : B 58 = M0 58) : mI3 10 126 [vr 53] B (fun v B' => TxM B B' v (teP b L 162 0 0 q0)) := by
  generalize hr : teP b L 162 0 0 q0 = r
  refine mI3_i ⟨by decide, Nat.le_of_ble_eq_true rfl⟩ (fun K hK => q_M_text_0 hK B ?_)
  have tl := tp.2.2.1
  have k71 : ∀ (c : Int) (B2 : mMem), GFr B2 B → B2 53 7 = r.1 → (r.1 = 0 → c = r.2.2.1 ∧ PgT B2 r.2.2.2) → (r.1 ≠ 0 → 0 < r.1 ∧ B2 53 8 = r.2.1) → K 71 [(0, vr 53), (1, vi c)] [] (S0, B2) := by
    intro c B2 gf e7 hz hf
    have n0 : ∀ k : Nat, k ≠ 53 → mupd (mupd B2 53 5 0) 53 6 (mupd B2 53 5 0 53 7) k = B2 k := fun k w => by rw [mupd_ne _ _ _ w, mupd_ne _ _ _ w]
    have n1 : ∀ x : Int, x ≠ 5 → x ≠ 6 → mupd (mupd B2 53 5 0) 53 6 (mupd B2 53 5 0 53 7) 53 x = B2 53 x := fun x w w2 => by rw [mupd_at, fup_ne _ _ w2, mupd_at, fup_ne _ _ w]
    have n5 : mupd (mupd B2 53 5 0) 53 6 (mupd B2 53 5 0 53 7) 53 5 = 0 := by rw [mupd_at, fup_ne _ _ (by decide), mupd_at, fup_at]
    have n6 : mupd (mupd B2 53 5 0) 53 6 (mupd B2 53 5 0 53 7) 53 6 = r.1 := by rw [mupd_at, fup_at, mupd_at, fup_ne _ _ (by decide), e7]
    refine q_M_text_71 hK c B2 ?_
    generalize mupd (mupd B2 53 5 0) 53 6 (mupd B2 53 5 0 53 7) = B3 at *
    have n7 : B3 53 7 = r.1 := by rw [n1 7 (by decide) (by decide), e7]
    have n8 : B3 53 8 = B2 53 8 := n1 8 (by decide) (by decide)
    refine ⟨fun w => ?_, fun w => ?_⟩
    · have r0 : r.1 = 0 := Classical.byContradiction (fun z => by have := (hf z).1; omega)
      obtain ⟨ec, pg⟩ := hz r0
      have l101 : ∀ (j i : Nat), i + j = 85 → ∀ m : mMem, (∀ k : Nat, k ≠ 54 → m k = B3 k) → (∀ x : Int, 0 ≤ x → x < (i : Int) → m 54 x = B3 55 x) → (∀ x : Int, (i : Int) ≤ x → m 54 x = B3 54 x) → K 101 [(0, vr 53), (1, vi c), (2, vi (i : Int))] [] (S0, m) := by
        intro j
        induction j with
        | zero =>
          intro i hi m hm hl hh
          have hi : i = 85 := by omega
          rw [hi] at hl hh
          rw [hi]
          refine q_M_text_101 hK c _ m (br_t (by decide) (rI_i ⟨?_, ?_, ?_, ?_, ?_, Or.inl ⟨r0, ec, ?_, ?_, ?_, B2, pg, ?_⟩⟩))
          · intro k a1 a2 a3 a4
            rw [mupd_ne _ _ _ a4, mupd_ne _ _ _ a4, mupd_ne _ _ _ a1, hm k a2, n0 k a1]
            exact gf.1 k a1 a3
          · intro x a1 a2
            rw [mupd_ne _ _ _ (by decide), mupd_ne _ _ _ (by decide), mupd_at, fup_ne _ _ a2, hm 53 (by decide), n1 x (by omega) (by omega)]
            exact gf.2 x (by omega)
          · rw [mupd_ne _ _ _ (by decide), mupd_ne _ _ _ (by decide), mupd_at, fup_ne _ _ (by decide), hm 53 (by decide), n5]
          · rw [mupd_ne _ _ _ (by decide), mupd_ne _ _ _ (by decide), mupd_at, fup_ne _ _ (by decide), hm 53 (by decide), n6]
          · intro i a
            rw [mupd_ne _ _ _ (by decide), mupd_ne _ _ _ (by decide), mupd_ne _ _ _ (by decide), hh i (by omega), n0 54 (by decide), gf.1 54 (by decide) (by decide)]
          · rw [mupd_ne _ _ _ (by decide), mupd_ne _ _ _ (by decide), mupd_at, fup_at]
          · rw [mupd_at, fup_ne _ _ (by decide), mupd_at, fup_at]
          · rw [mupd_at, fup_at]
          · intro i a1 a2
            rw [mupd_ne _ _ _ (by decide), mupd_ne _ _ _ (by decide), mupd_ne _ _ _ (by decide), hl i a1 (by omega), n0 55 (by decide)]
        | succ j ih =>
          intro i hi m hm hl hh
          have h4 := ih (i + 1) (by omega)
          have hz : ∃ z : Int, z = (i : Int) := ⟨_, rfl⟩
          obtain ⟨z, hz⟩ := hz
          have ez : ((i + 1 : Nat) : Int) = z + 1 := by omega
          rw [ez] at h4
          rw [← hz] at hl hh
          rw [← hz]
          have zb : 0 ≤ z ∧ z < 85 := by omega
          clear hz ez hi ih
          have ew : w32 (z + 1) = z + 1 := w32_s (by omega) (by omega)
          refine q_M_text_101 hK c _ m (br_f (by omega) ?_)
          rw [ew]
          refine mIn_i (by omega) (by omega) (mIn_i (by omega) (by omega) (h4 _ ?_ ?_ ?_))
          · intro k a
            rw [mupd_ne _ _ _ a]
            exact hm k a
          · intro x a1 a2
            rw [mupd_at]
            by_cases xz : x = z
            · rw [xz, fup_at, hm 55 (by decide)]
            · rw [fup_ne _ _ xz]
              exact hl x a1 (by omega)
          · intro x a1
            rw [mupd_at, fup_ne _ _ (by omega)]
            exact hh x (by omega)
      exact l101 85 0 (by omega) B3 (fun _ _ => rfl) (fun x a1 a2 => absurd a2 (by omega)) (fun _ _ => rfl)
    · have r1 := hf (by omega)
      refine rI_i ⟨?_, ?_, n5, n6, ?_, Or.inr ⟨r1.1, ?_, ?_, ?_, ?_⟩⟩
      · intro k a1 a2 a3 a4
        rw [n0 k a1]
        exact gf.1 k a1 a3
      · intro x a1 a2
        rw [n1 x (by omega) (by omega)]
        exact gf.2 x (by omega)
      · intro i a
        rw [n0 54 (by decide), gf.1 54 (by decide) (by decide)]
      · rw [n8, r1.2]
      · rw [n1 22 (by decide) (by decide)]
        exact gf.2 22 (by omega)
      · rw [n0 63 (by decide)]
        exact gf.1 63 (by decide) (by decide)
      · rw [n0 54 (by decide)]
        exact gf.1 54 (by decide) (by decide)
  have l47 : ∀ (j : Nat) (n c : Int) (q : Sig), L + 1 ≤ n + j → 0 ≤ c → c ≤ n → n ≤ L → teP b L j n c q = r → ∀ B2 : mMem, GFr B2 B → LkM B2 b L n → PgT B2 q → K 47 [(0, vr 53), (1, vi c)] [] (S0, B2) := by
    intro j
    induction j with
    | zero =>
      intro n c q hj c0 cn nl
      omega
    | succ j ih =>
      intro n c q hj c0 cn nl he B2 gf lk pg
      have lk2 := lk
      obtain ⟨l10, lk2⟩ := lk2
      rw [teP_s] at he
      have ew : w32 (c + 1) = c + 1 := w32_s (by omega) (by omega)
      rcases lk2 with ⟨b0, e7, e11, e9, _⟩ | ⟨b1, e7, e8⟩
      · rw [if_neg (fun w => w b0)] at he
        refine q_M_text_47 hK c B2 (br_f (fun w => w e7) ⟨fun w => ?_, fun w => ?_⟩)
        · rw [e11] at w
          rw [if_pos w] at he
          exact k71 c B2 gf (by rw [e7, ← he]) (fun _ => ⟨by rw [← he], by rw [← he]; exact pg⟩) (fun z => absurd (by rw [← he]) z)
        · rw [e11] at w
          rw [if_neg w] at he
          refine cN (M_line 3 (TpM_g tp gf) (n := n) ⟨by omega, nl⟩ lk b0 pg (by rw [gf.1 57 (by decide) (by decide), h57]) (by rw [gf.1 58 (by decide) (by decide), h58])) (fun B3 p3 => ?_)
          obtain ⟨gf3, p3⟩ := p3
          have gf4 := GFr_trans gf3 gf
          rw [ew]
          rcases p3 with ⟨r1, lk3, pg3⟩ | ⟨r1, g7, g8⟩
          · rw [if_neg (fun w => w r1)] at he
            have lr := li_rng (b := b) (L := L) (n := n) (q := q) ⟨by omega, nl⟩ w r1
            exact ih _ (c + 1) _ (by omega) (by omega) (by omega) lr.2 he B3 gf4 lk3 pg3
          · rw [if_pos (by omega)] at he
            refine q_M_text_47 hK (c + 1) B3 (br_t (by omega) (k71 (c + 1) B3 gf4 (by rw [g7, ← he]) (fun z => ?_) (fun z => ⟨by rw [← he]; exact r1, by rw [g8, ← he]⟩)))
            rw [← he] at z
            have z : (liP b L n q).1 = 0 := z
            omega
      · rw [if_pos b1] at he
        refine q_M_text_47 hK c B2 (br_t (by omega) (k71 c B2 gf (by rw [e7, ← he]) (fun z => ?_) (fun z => ⟨by rw [← he]; show (0 : Int) < 1; decide, by rw [e8, ← he]⟩)))
        rw [← he] at z
        exact absurd z (show (1 : Int) ≠ 0 by decide)
  have g0 : GFr (mupd (mupd (mupd (mupd B 53 7 0) 53 9 0) 53 2 0) 53 3 0) B := ⟨fun k w _ => by rw [mupd_ne _ _ _ w, mupd_ne _ _ _ w, mupd_ne _ _ _ w, mupd_ne _ _ _ w], fun x w => by rw [mupd_at, fup_ne _ _ (by omega), mupd_at, fup_ne _ _ (by omega), mupd_at, fup_ne _ _ (by omega), mupd_at, fup_ne _ _ (by omega)]⟩
  have n7 : mupd (mupd (mupd (mupd B 53 7 0) 53 9 0) 53 2 0) 53 3 0 53 7 = 0 := by rw [mupd_at, fup_ne _ _ (by decide), mupd_at, fup_ne _ _ (by decide), mupd_at, fup_ne _ _ (by decide), mupd_at, fup_at]
  have n9 : mupd (mupd (mupd (mupd B 53 7 0) 53 9 0) 53 2 0) 53 3 0 53 9 = 0 := by rw [mupd_at, fup_ne _ _ (by decide), mupd_at, fup_ne _ _ (by decide), mupd_at, fup_at]
  have n2 : mupd (mupd (mupd (mupd B 53 7 0) 53 9 0) 53 2 0) 53 3 0 53 2 = 0 := by rw [mupd_at, fup_ne _ _ (by decide), mupd_at, fup_at]
  have n3 : mupd (mupd (mupd (mupd B 53 7 0) 53 9 0) 53 2 0) 53 3 0 53 3 = 0 := by rw [mupd_at, fup_at]
  generalize mupd (mupd (mupd (mupd B 53 7 0) 53 9 0) 53 2 0) 53 3 0 = N at g0 n7 n9 n2 n3
  have l24 : ∀ (j i : Nat), i + j = 85 → ∀ m : mMem, GFr m B → m 53 = N 53 → (∀ x : Int, 0 ≤ x → x < (i : Int) → m 55 x = 0) → K 24 [(0, vr 53), (1, vi 0), (2, vi (i : Int))] [] (S0, m) := by
    intro j
    induction j with
    | zero =>
      intro i hi m gf hm hl
      have hi : i = 85 := by omega
      rw [hi] at hl
      rw [hi]
      have pg0 : PgT m q0 := by
        unfold PgT
        rw [hm, n2, n3]
        refine ⟨fun i a1 a2 => hl i a1 (by omega), fun c a1 a2 => ?_, hl 39 (by omega) (by omega), fun l x a1 a2 => ?_, hl 60 (by omega) (by omega), ⟨by decide, by decide⟩, rfl, rfl⟩
        · rw [hl (35 + c) (by omega) (by omega)]
          rfl
        · exact absurd (show l < 0 from a2) (by omega)
      refine q_M_text_24 hK 0 _ m (br_t (by decide) (cN (M_next 7 (TpM_g tp gf) (n := 0) ⟨by omega, tl.1⟩ (by rw [hm, n7]) (by rw [hm, n9])) (fun m' p => ?_)))
      exact l47 162 0 0 q0 (by omega) (by omega) (by omega) tl.1 hr m' (GFr_trans (GFr_m p.1) gf) p.2 (PgT_m pg0 p.1)
    | succ j ih =>
      intro i hi m gf hm hl
      have h4 := ih (i + 1) (by omega)
      have hz : ∃ z : Int, z = (i : Int) := ⟨_, rfl⟩
      obtain ⟨z, hz⟩ := hz
      have ez : ((i + 1 : Nat) : Int) = z + 1 := by omega
      rw [ez] at h4
      rw [← hz] at hl
      rw [← hz]
      have zb : 0 ≤ z ∧ z < 85 := by omega
      clear hz ez hi ih
      have ew : w32 (z + 1) = z + 1 := w32_s (by omega) (by omega)
      refine q_M_text_24 hK 0 _ m (br_f (by omega) ?_)
      rw [ew]
      refine mIn_i (by omega) (by omega) (h4 _ (GFr_5 gf) (by rw [mupd_ne _ _ _ (by decide), hm]) (fun x a1 a2 => ?_))
      rw [mupd_at]
      by_cases xz : x = z
      · rw [xz, fup_at]
      · rw [fup_ne _ _ xz]
        exact hl x a1 (by omega)
  exact l24 85 0 (by omega) N g0 rfl (fun x a1 a2 => absurd a2 (by omega))
def TxL (M m : mMem) (v : Int) (r : Int × Int × Int × Sig) : Prop := ∃ A : mMem, LFr A M ∧ ((r.1 = 0 ∧ v = r.2.2.1 ∧ A 35 2 = 0 ∧ TrT A r.2.2.2 ∧ m = mupd (mupd (mupd (cpyM (mupd A 35 1 0) 1 9) 0 13 0) 17 1 0) 26 1 0) ∨ (r.1 ≠ 0 ∧ v = w32 ((-10) - r.2.1) ∧ A 35 2 = r.1 ∧ m = mupd A 35 1 0))
theorem L_text {M : mMem} {b : Int → Int} {L : Int} (tp : TpL M b L) : mI3 10 47 [vr 0] M (fun v m => TxL M m v (teP b L 162 0 0 q0)) := by
  refine mI3_i ⟨by decide, Nat.le_of_ble_eq_true rfl⟩ (fun K hK => q_L_text_0 hK M (cI (T_tell 3 tp) (fun v A p => ?_)))
  generalize teP b L 162 0 0 q0 = r at *
  obtain ⟨lf, p⟩ := p
  have e2 : mupd A 35 1 0 35 2 = A 35 2 := by rw [mupd_at, fup_ne _ _ (by decide)]
  have e3 : mupd A 35 1 0 35 3 = A 35 3 := by rw [mupd_at, fup_ne _ _ (by decide)]
  rw [e2, e3]
  rcases p with ⟨r0, ev, a2, tt⟩ | ⟨r1, a2, a3⟩
  · exact br_t a2 ⟨_, R_copyFrom 8 _ 1 9 (by unfold cpP; omega), rI_i ⟨A, lf, Or.inl ⟨r0, ev, a2, tt, rfl⟩⟩⟩
  · exact br_f (by omega) (rI_i ⟨A, lf, Or.inr ⟨r1, by rw [a3], a2, rfl⟩⟩)
end
section
/-! PURE PROOFS 80: text, both -/
theorem P_text {M : mMem} (h : Inv M) : PairI 47 126 [] M := by
  have ht := h.2.2.2.2.1
  have hs := h.2.2.2.2.2.1
  have hh := h.2.2.2.2.2.2.1
  have ho := h.2.2.2.2.2.2.2.1
  have h57 := h.2.2.2.2.2.2.2.2.1
  have h58 := h.2.2.2.2.2.2.2.2.2
  have tp : TpL M (M 36) (M 35 1) := ⟨rfl, rfl, ht.1, fun i a c => (ht.2.2.2 i a c).2⟩
  obtain ⟨v, m, tx, r1⟩ := L_text tp
  obtain ⟨A, lf, tx⟩ := tx
  have mk : ∀ k : Nat, (k = 36 ∨ 40 ≤ k) → m k = M k := by
    intro k hk
    have e := lf.1 k (by omega) (by omega)
    rcases tx with ⟨_, _, _, _, em⟩ | ⟨_, _, _, em⟩
    · rw [em, mupd_ne _ _ _ (by omega), mupd_ne _ _ _ (by omega), mupd_ne _ _ _ (by omega), cpy_ne _ (by omega), mupd_ne _ _ _ (by omega), e]
    · rw [em, mupd_ne _ _ _ (by omega), e]
  have tm : TpM m (M 36) (M 35 1) := by
    refine ⟨by rw [mk 53 (by omega)]; exact ht.2.1, fun i a c => ?_, ht.1, fun i a c => (ht.2.2.2 i a c).2⟩
    rw [mk 56 (by omega)]
    exact (ht.2.2.2 i a c).1
  obtain ⟨v2, m2, ty, r2⟩ := M_text tm (by rw [mk 57 (by omega), h57]) (by rw [mk 58 (by omega), h58])
  generalize teP (M 36) (M 35 1) 162 0 0 q0 = r at *
  obtain ⟨y1, y2, y5, y6, y7, ty⟩ := ty
  rcases tx with ⟨r0, ev, a2, tt, em⟩ | ⟨rn, ev, a2, em⟩
  · rcases ty with ⟨_, ev2, c22, c0, c1, N, pg, e54⟩ | ⟨w, _⟩
    · have c9 : Cht (mupd A 35 1 0) 9 := Cht_eq tt.1 (fun k a b => mupd_ne _ _ _ (by omega))
      have q9 : ∀ k : Nat, k ≠ 35 → mupd A 35 1 0 k = A k := fun k w => mupd_ne _ _ _ w
      have p19 : cpP 1 9 := Or.inl ⟨rfl, rfl⟩
      have cc := cpy_cht p19 c9
      have k1 : ∀ {i : Int}, 0 ≤ i → i < 36 → cpyM (mupd A 35 1 0) 1 9 2 i = mupd A 35 1 0 10 i := fun a c => cpy_1 _ (by omega) a c
      have k2 : ∀ {i : Int}, 0 ≤ i → i < 4 → cpyM (mupd A 35 1 0) 1 9 3 i = mupd A 35 1 0 11 i := fun a c => cpy_2 _ (by omega) a c
      have k3 : ∀ {i : Int}, 0 ≤ i → i < 20 → cpyM (mupd A 35 1 0) 1 9 4 i = mupd A 35 1 0 12 i := fun a c => cpy_3 _ (by omega) a c
      have k5 : cpyM (mupd A 35 1 0) 1 9 1 5 = mupd A 35 1 0 9 5 := cpy_5 _ (by omega)
      have k6 : cpyM (mupd A 35 1 0) 1 9 1 6 = mupd A 35 1 0 9 6 := cpy_6 _ (by omega)
      have kn : ∀ k : Nat, k < 1 ∨ 9 ≤ k → cpyM (mupd A 35 1 0) 1 9 k = mupd A 35 1 0 k := fun k w => cpy_ne _ (by omega)
      have b35 : mupd A 35 1 0 35 1 = 0 ∧ mupd A 35 1 0 35 2 = 0 := ⟨by rw [mupd_at, fup_at], by rw [mupd_at, fup_ne _ _ (by decide), a2]⟩
      rw [q9 10 (by decide)] at k1
      rw [q9 11 (by decide)] at k2
      rw [q9 12 (by decide)] at k3
      rw [q9 9 (by decide)] at k5 k6
      generalize hC : cpyM (mupd A 35 1 0) 1 9 = C at *
      obtain ⟨_, t1, t2, t3, t5, t6, t8, t9⟩ := tt
      obtain ⟨g1, g2, g3, g4, g5, g6, _, _⟩ := pg
      have mC : ∀ k : Nat, k ≠ 0 → k ≠ 17 → k ≠ 26 → m k = C k := fun k w0 w1 w2 => by rw [em, mupd_ne _ _ _ w2, mupd_ne _ _ _ w1, mupd_ne _ _ _ w0]
      have m8 : ∀ k : Nat, 1 ≤ k → k ≤ 8 → m2 k = C k := fun k w w2 => by rw [y1 k (by omega) (by omega) (by omega) (by omega), mC k (by omega) (by omega) (by omega)]
      have mA : ∀ k : Nat, (18 ≤ k ∧ k ≤ 25) ∨ 27 ≤ k → k ≠ 35 → k ≠ 53 → k ≠ 54 → k ≠ 55 → k ≠ 63 → m2 k = M k := fun k w w1 w2 w3 w4 w5 => by rw [y1 k w2 w3 w4 w5, mC k (by omega) (by omega) (by omega), kn k (by omega), q9 k w1, lf.1 k (by omega) w1]
      have m17 : m2 17 1 = 0 := by rw [y1 17 (by decide) (by decide) (by decide) (by decide), em, mupd_ne _ _ _ (by decide), mupd_at, fup_at]
      have m26 : m2 26 1 = 0 := by rw [y1 26 (by decide) (by decide) (by decide) (by decide), em, mupd_at, fup_at]
      have m13 : m2 0 13 = 0 := by rw [y1 0 (by decide) (by decide) (by decide) (by decide), em, mupd_ne _ _ _ (by decide), mupd_ne _ _ _ (by decide), mupd_at, fup_at]
      have m16 : m2 0 16 = M 0 16 := by rw [y1 0 (by decide) (by decide) (by decide) (by decide), em, mupd_ne _ _ _ (by decide), mupd_ne _ _ _ (by decide), mupd_at, fup_ne _ _ (by decide), kn 0 (by omega), q9 0 (by decide), lf.1 0 (by omega) (by decide)]
      have m35 : m2 35 = mupd A 35 1 0 35 := by rw [y1 35 (by decide) (by decide) (by decide) (by decide), mC 35 (by decide) (by decide) (by decide), kn 35 (by omega)]
      have l5 := g6
      rw [ev] at r1
      rw [ev2] at r2
      refine ⟨_, m, m2, r1, r2, Cht_eq cc (fun k a b => m8 k a (by omega)), Pg_of0 ⟨?_, ?_, ?_, ?_, ?_, ?_⟩, ⟨Or.inl m17, by rw [c0, m17], fun w => absurd w (by omega)⟩, ⟨Or.inl m26, by rw [c1, m26], fun w => absurd w (by omega)⟩, ⟨?_, ?_, ?_, ?_⟩, ⟨?_, ?_, ?_⟩, ?_, ?_, ?_, ?_⟩
      · intro i a c
        rw [e54 i a (by omega), g1 i a c, m8 2 (by decide) (by decide), k1 a c, t1 i a c]
      · intro c a z
        rw [e54 (35 + c) (by omega) (by omega), g2 c a z, m8 3 (by decide) (by decide), k2 (by omega) (by omega), t2 c a z]
      · rw [e54 39 (by omega) (by omega), g3, m8 1 (by decide) (by decide), k5, t5]
      · intro l x a1 b1 a2 b2
        rw [m8 1 (by decide) (by decide), k5, t5] at b1
        rw [e54 (40 + 5 * x + l) (by omega) (by omega), g4 l x a1 b1 a2 b2, m8 4 (by decide) (by decide), k3 (by omega) (by omega), t3 _ (by omega) (by omega)]
      · rw [e54 60 (by omega) (by omega), g5, m8 1 (by decide) (by decide), k6, t6]
      · intro i a w
        rw [m8 1 (by decide) (by decide), k6, t6] at w
        exact absurd w (by omega)
      · rw [m35, b35.1]
        omega
      · rw [m35, b35.1, y5]
      · rw [m35, b35.2, y6, r0]
      · intro i a w
        rw [m35, b35.1] at w
        exact absurd w (by omega)
      · rw [m13]
        omega
      · rw [m13, c22]
      · intro i a w
        rw [m13] at w
        exact absurd w (by omega)
      · exact ShI_fr hh (fun k w => mA k (by omega) (by omega) (by omega) (by omega) (by omega) (by omega))
      · rw [m16, y2 30 (by decide) (by decide), mk 53 (by omega), ho]
      · rw [mA 57 (by omega) (by decide) (by decide) (by decide) (by decide) (by decide), h57]
      · rw [mA 58 (by omega) (by decide) (by decide) (by decide) (by decide) (by decide), h58]
    · omega
  · rcases ty with ⟨w, _⟩ | ⟨_, ev2, c22, c63, c54⟩
    · exact absurd w rn
    · rw [ev] at r1
      rw [ev2] at r2
      have ek : ∀ k : Nat, (k < 9 ∨ 17 ≤ k) → k ≠ 35 → k ≠ 53 → k ≠ 54 → k ≠ 55 → k ≠ 63 → m2 k = M k := fun k w w1 w2 w3 w4 w5 => by rw [y1 k w2 w3 w4 w5, em, mupd_ne _ _ _ w1, lf.1 k w w1]
      have e63 : m2 63 = M 63 := by rw [c63, mk 63 (by omega)]
      have e54 : m2 54 = M 54 := by rw [c54, mk 54 (by omega)]
      have s1 : m2 35 1 = 0 := by rw [y1 35 (by decide) (by decide) (by decide) (by decide), em, mupd_at, fup_at]
      have s2 : m2 35 2 = r.1 := by rw [y1 35 (by decide) (by decide) (by decide) (by decide), em, mupd_at, fup_ne _ _ (by decide), a2]
      refine ⟨_, m, m2, r1, r2, Inv_ch h (fun k w => ?_) (fun i _ _ => by rw [e54]) ⟨by rw [s1]; omega, by rw [s1, y5], by rw [s2, y6], fun i a w => ?_⟩ (SeI_fr hs ?_ ?_ ?_ ?_ ?_) (ShI_fr hh (fun k w => ek k (by omega) (by omega) (by omega) (by omega) (by omega) (by omega))) ?_⟩
      · by_cases k63 : k = 63
        · rw [k63, e63]
        · exact ek k (by omega) (by omega) (by omega) (by omega) (by omega) k63
      · rw [s1] at w
        exact absurd w (by omega)
      · rw [ek 0 (by omega) (by decide) (by decide) (by decide) (by decide) (by decide)]
      · rw [c22, mk 53 (by omega)]
      · exact ek 60 (by omega) (by decide) (by decide) (by decide) (by decide) (by decide)
      · exact ek 40 (by omega) (by decide) (by decide) (by decide) (by decide) (by decide)
      · exact ek 41 (by omega) (by decide) (by decide) (by decide) (by decide) (by decide)
      · rw [ek 0 (by omega) (by decide) (by decide) (by decide) (by decide) (by decide), y2 30 (by decide) (by decide), mk 53 (by omega), ho]
end
