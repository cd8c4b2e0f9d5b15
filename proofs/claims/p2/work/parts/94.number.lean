/-! PURE PROOFS 69: numbers and stops -/
def nuK (b : Int → Int) (L lo hi n : Int) : Int := if tB b L n ≠ 0 then 1 else if tT b L n ≠ 2 then 2 else if tV b L n < lo ∨ hi < tV b L n then 3 else 0
def stK (b : Int → Int) (L n : Int) : Int := if tB b L n ≠ 0 then 1 else if tT b L n ≠ 3 then 2 else 0
/-- the tape as the class has it -/
def TpL (A : mMem) (b : Int → Int) (L : Int) : Prop := A 36 = b ∧ A 35 1 = L ∧ (0 ≤ L ∧ L ≤ 160) ∧ ∀ i : Int, 0 ≤ i → i < L → 0 ≤ b i ∧ b i ≤ 127
theorem TpL_fr {A' A : mMem} {b : Int → Int} {L : Int} (h : TpL A b L) (f : TFr A' A) : TpL A' b L := ⟨by rw [f.1 36 (by decide), h.1], by rw [f.2.1, h.2.1], h.2.2⟩
theorem tE_rng {b : Int → Int} {L n : Int} (hn : 0 ≤ n ∧ n ≤ L) : (n ≤ tS b L n ∧ tS b L n ≤ L) ∧ (tS b L n ≤ tE b L n ∧ tE b L n ≤ L) ∧ (tT b L n ≠ 0 → tS b L n < tE b L n) := by
  have sr : n ≤ tS b L n ∧ tS b L n ≤ L := rnF_rng b L p1 160 n hn.2
  have e1 := rnF_rng b L p2 160 (tS b L n) sr.2
  have e2 := rnF_rng b L p3 160 (tS b L n) sr.2
  have eE : tE b L n = if tS b L n < L then (if p2 (b (tS b L n)) ≠ 0 then rnF b L p2 160 (tS b L n) else if p3 (b (tS b L n)) ≠ 0 then rnF b L p3 160 (tS b L n) else tS b L n + 1) else tS b L n := rfl
  have eT : tT b L n = if tS b L n < L then (if p2 (b (tS b L n)) ≠ 0 then 1 else if p3 (b (tS b L n)) ≠ 0 then 2 else 3) else 0 := rfl
  have s2 : rnF b L p2 160 (tS b L n) = if tS b L n < L ∧ p2 (b (tS b L n)) ≠ 0 then rnF b L p2 159 (tS b L n + 1) else tS b L n := rnF_s b L p2 159 _
  have s3 : rnF b L p3 160 (tS b L n) = if tS b L n < L ∧ p3 (b (tS b L n)) ≠ 0 then rnF b L p3 159 (tS b L n + 1) else tS b L n := rnF_s b L p3 159 _
  generalize tS b L n = s at *
  generalize tE b L n = E at *
  generalize tT b L n = T at *
  by_cases q : s < L
  · rw [if_pos q] at eE eT
    by_cases z : p2 (b s) ≠ 0
    · rw [if_pos z] at eE eT
      rw [if_pos ⟨q, z⟩] at s2
      have r := rnF_rng b L p2 159 (s + 1) (by omega)
      refine ⟨sr, by omega, fun _ => by omega⟩
    · rw [if_neg z] at eE eT
      by_cases z2 : p3 (b s) ≠ 0
      · rw [if_pos z2] at eE eT
        rw [if_pos ⟨q, z2⟩] at s3
        have r := rnF_rng b L p3 159 (s + 1) (by omega)
        refine ⟨sr, by omega, fun _ => by omega⟩
      · rw [if_neg z2] at eE eT
        refine ⟨sr, by omega, fun _ => by omega⟩
  · rw [if_neg q] at eE eT
    refine ⟨sr, by omega, fun w => absurd eT w⟩
theorem tV_rng {b : Int → Int} {L n : Int} (hb : ∀ i : Int, 0 ≤ i → i < L → 0 ≤ b i ∧ b i ≤ 127) (hn : 0 ≤ n ∧ n ≤ L) (hB : tB b L n = 0) (hT : tT b L n = 2) : 0 ≤ tV b L n ∧ tV b L n ≤ 99 := by
  have r := tE_rng (b := b) hn
  have sr := r.1
  have eE : tE b L n = if tS b L n < L then (if p2 (b (tS b L n)) ≠ 0 then rnF b L p2 160 (tS b L n) else if p3 (b (tS b L n)) ≠ 0 then rnF b L p3 160 (tS b L n) else tS b L n + 1) else tS b L n := rfl
  have eT : tT b L n = if tS b L n < L then (if p2 (b (tS b L n)) ≠ 0 then 1 else if p3 (b (tS b L n)) ≠ 0 then 2 else 3) else 0 := rfl
  have eB : tB b L n = if tS b L n < L then (if p2 (b (tS b L n)) ≠ 0 then 0 else if p3 (b (tS b L n)) ≠ 0 then b2 (2 < rnF b L p3 160 (tS b L n) - tS b L n) else b2 (b (tS b L n) ≠ 59)) else 0 := rfl
  have eV : tV b L n = if tE b L n - tS b L n = 1 then b (tS b L n) - 48 else 10 * (b (tS b L n) - 48) + b (tS b L n + 1) - 48 := rfl
  have s3 : rnF b L p3 160 (tS b L n) = if tS b L n < L ∧ p3 (b (tS b L n)) ≠ 0 then rnF b L p3 159 (tS b L n + 1) else tS b L n := rnF_s b L p3 159 _
  have s4 : rnF b L p3 159 (tS b L n + 1) = if tS b L n + 1 < L ∧ p3 (b (tS b L n + 1)) ≠ 0 then rnF b L p3 158 (tS b L n + 1 + 1) else tS b L n + 1 := rnF_s b L p3 158 _
  generalize tS b L n = s at *
  generalize tE b L n = E at *
  generalize tV b L n = V at *
  by_cases q : s < L
  · rw [if_pos q] at eE eT eB
    by_cases z : p2 (b s) ≠ 0
    · rw [if_pos z] at eT
      exact absurd hT (by omega)
    · rw [if_neg z] at eE eT eB
      by_cases z2 : p3 (b s) ≠ 0
      · rw [if_pos z2] at eE eT eB
        have f0 := b2_n0.mp z2
        rw [hB] at eB
        have f1 := b2_0.mp eB.symm
        rw [if_pos ⟨q, z2⟩] at s3
        by_cases w : E - s = 1
        · rw [if_pos w] at eV
          omega
        · rw [if_neg w] at eV
          by_cases u : s + 1 < L ∧ p3 (b (s + 1)) ≠ 0
          · have f2 := b2_n0.mp u.2
            omega
          · rw [if_neg u] at s4
            exact absurd w (by omega)
      · rw [if_neg z2] at eT
        exact absurd hT (by omega)
  · rw [if_neg q] at eT
    exact absurd hT (by omega)
theorem T_num (d : Nat) {A : mMem} {b : Int → Int} {L n lo hi : Int} (tp : TpL A b L) (hn : 0 ≤ n ∧ n ≤ L) (h2 : A 35 2 = 0) (h4 : A 35 4 = n) : mI3 (d + 3) 42 [vr 35, vi lo, vi hi] A (fun v A' => TFr A' A ∧ A' 35 6 = tS b L n ∧ ((nuK b L lo hi n = 0 ∧ v = tV b L n ∧ (lo ≤ v ∧ v ≤ hi) ∧ A' 35 2 = 0 ∧ A' 35 3 = A 35 3 ∧ A' 35 4 = tE b L n) ∨ (nuK b L lo hi n ≠ 0 ∧ v = lo ∧ A' 35 2 = nuK b L lo hi n ∧ A' 35 3 = tS b L n))) := by
  obtain ⟨t1, t2, t3, t4⟩ := tp
  have tk := T_token d (A := A) (n := n) (by rw [t2]; exact hn) (by omega) (by rw [t1, t2]; exact t4) h2 h4
  refine mI3_i ⟨by decide, Nat.le_of_ble_eq_true rfl⟩ (fun K hK => q_T_takeNumber_0 hK lo hi A (cN tk (fun A1 p => ?_)))
  unfold TkL at p
  rw [t1, t2] at p
  obtain ⟨f, e6, p⟩ := p
  have eK : nuK b L lo hi n = if tB b L n ≠ 0 then 1 else if tT b L n ≠ 2 then 2 else if tV b L n < lo ∨ hi < tV b L n then 3 else 0 := rfl
  generalize nuK b L lo hi n = k at *
  rcases p with ⟨b0, e2, e3, e5, e4, e7⟩ | ⟨b1, e2, e3⟩
  · rw [if_neg (fun w => w b0)] at eK
    refine br_f (fun w => w e2) ⟨fun q => ?_, fun q => cN (T_fail (d + 1) A1 2) (fun A2 p2 => ?_)⟩
    · rw [e5] at q
      rw [if_neg (fun w => w q)] at eK
      have e7 := e7 q
      have k43 : (tV b L n < lo ∨ hi < tV b L n) → K 43 [(0, vr 35), (1, vi lo)] [] (S0, A1) := by
        intro w
        rw [if_pos w] at eK
        refine q_T_takeNumber_43 hK lo A1 (cN (T_fail (d + 1) A1 3) (fun A2 p2 => ?_))
        rcases p2.2.2.2.2.2 with ⟨u, _⟩ | ⟨_, u1, u2⟩
        · exact absurd e2 u
        · exact br_t (by rw [u1]; decide) (rI_i ⟨TFr_trans p2.1 f, by rw [p2.2.2.2.1, e6], Or.inr ⟨by omega, rfl, by omega, by rw [u2, e6]⟩⟩)
      rw [e7]
      refine ⟨fun w => k43 (Or.inl w), fun w => ⟨fun w2 => br_f (fun z => z e2) (rI_i ?_), fun w2 => k43 (Or.inr (by omega))⟩⟩
      rw [if_neg (by omega)] at eK
      exact ⟨f, e6, Or.inl ⟨eK, rfl, by omega, e2, e3, e4⟩⟩
    · rw [e5] at q
      rw [if_pos q] at eK
      rcases p2.2.2.2.2.2 with ⟨u, _⟩ | ⟨_, u1, u2⟩
      · exact absurd e2 u
      · exact br_t (by rw [u1]; decide) (rI_i ⟨TFr_trans p2.1 f, by rw [p2.2.2.2.1, e6], Or.inr ⟨by omega, rfl, by omega, by rw [u2, e6]⟩⟩)
  · rw [if_pos b1] at eK
    exact br_t (by rw [e2]; decide) (br_t (by rw [e2]; decide) (rI_i ⟨f, e6, Or.inr ⟨by omega, rfl, by omega, e3⟩⟩))
theorem T_tok0 (d : Nat) {A : mMem} (h2 : A 35 2 ≠ 0) : mR3 (d + 2) 33 [vr 35] (S0, A) (none, (S0, A)) := ⟨⟨by decide, Nat.le_of_ble_eq_true rfl⟩, fun K hK => q_T_readToken_0 hK A (br_f h2 (mret_n rfl))⟩
theorem T_num0 (d : Nat) {A : mMem} {lo hi : Int} (h2 : A 35 2 ≠ 0) : mR3 (d + 3) 42 [vr 35, vi lo, vi hi] (S0, A) (some (vi lo), (S0, A)) := ⟨⟨by decide, Nat.le_of_ble_eq_true rfl⟩, fun K hK => q_T_takeNumber_0 hK lo hi A ⟨_, T_tok0 d h2, br_t h2 (br_t h2 (mret_i rfl rfl))⟩⟩
theorem T_stop0 (d : Nat) {A : mMem} (h2 : A 35 2 ≠ 0) : mR3 (d + 3) 43 [vr 35] (S0, A) (none, (S0, A)) := ⟨⟨by decide, Nat.le_of_ble_eq_true rfl⟩, fun K hK => q_T_takeStop_0 hK A ⟨_, T_tok0 d h2, br_t h2 (mret_n rfl)⟩⟩
theorem T_stop (d : Nat) {A : mMem} {b : Int → Int} {L n : Int} (tp : TpL A b L) (hn : 0 ≤ n ∧ n ≤ L) (h2 : A 35 2 = 0) (h4 : A 35 4 = n) : mN3 (d + 3) 43 [vr 35] A (fun A' => TFr A' A ∧ ((stK b L n = 0 ∧ A' 35 2 = 0 ∧ A' 35 3 = A 35 3 ∧ A' 35 4 = tE b L n) ∨ (stK b L n ≠ 0 ∧ A' 35 2 = stK b L n ∧ A' 35 3 = tS b L n))) := by
  obtain ⟨t1, t2, t3, t4⟩ := tp
  have tk := T_token d (A := A) (n := n) (by rw [t2]; exact hn) (by omega) (by rw [t1, t2]; exact t4) h2 h4
  refine mN3_i ⟨by decide, Nat.le_of_ble_eq_true rfl⟩ (fun K hK => q_T_takeStop_0 hK A (cN tk (fun A1 p => ?_)))
  unfold TkL at p
  rw [t1, t2] at p
  obtain ⟨f, e6, p⟩ := p
  unfold stK
  rcases p with ⟨b0, e2, e3, e5, e4, e7⟩ | ⟨b1, e2, e3⟩
  · rw [if_neg (fun w => w b0)]
    refine br_f (fun w => w e2) ⟨fun q => ?_, fun q => cN (T_fail (d + 1) A1 2) (fun A2 p2 => ?_)⟩
    · rw [e5] at q
      rw [if_neg (fun w => w q)]
      exact rN_i ⟨f, Or.inl ⟨rfl, e2, e3, e4⟩⟩
    · rw [e5] at q
      rw [if_pos q]
      rcases p2.2.2.2.2.2 with ⟨u, _⟩ | ⟨_, u1, u2⟩
      · exact absurd e2 u
      · exact rN_i ⟨TFr_trans p2.1 f, Or.inr ⟨by decide, u1, by rw [u2, e6]⟩⟩
  · rw [if_pos b1]
    exact br_t (by rw [e2]; decide) (rN_i ⟨f, Or.inr ⟨by decide, e2, e3⟩⟩)
