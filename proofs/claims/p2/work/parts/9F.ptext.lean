/-! PURE PROOFS 80: text, both -/
theorem P_text {M : mMem} (h : Inv M) : PairI 47 126 [] M := by
  have ht := h.2.2.2.2.1
  have hs := h.2.2.2.2.2.1
  have hh := h.2.2.2.2.2.2.1
  have ho := h.2.2.2.2.2.2.2.1
  have h57 := h.2.2.2.2.2.2.2.2.1
  have h58 := h.2.2.2.2.2.2.2.2.2
  have tp : TpL M (M 36) (M 35 1) := ⟨rfl, rfl, ht.1, fun i a c => (ht.2.2.2 i a c).2⟩
  obtain ⟨v, m, tx, r1⟩ := L_text tp
  obtain ⟨A, lf, tx⟩ := tx
  have mk : ∀ k : Nat, (k = 36 ∨ 40 ≤ k) → m k = M k := by
    intro k hk
    have e := lf.1 k (by omega) (by omega)
    rcases tx with ⟨_, _, _, _, em⟩ | ⟨_, _, _, em⟩
    · rw [em, mupd_ne _ _ _ (by omega), mupd_ne _ _ _ (by omega), mupd_ne _ _ _ (by omega), cpy_ne _ (by omega), mupd_ne _ _ _ (by omega), e]
    · rw [em, mupd_ne _ _ _ (by omega), e]
  have tm : TpM m (M 36) (M 35 1) := by
    refine ⟨by rw [mk 53 (by omega)]; exact ht.2.1, fun i a c => ?_, ht.1, fun i a c => (ht.2.2.2 i a c).2⟩
    rw [mk 56 (by omega)]
    exact (ht.2.2.2 i a c).1
  obtain ⟨v2, m2, ty, r2⟩ := M_text tm (by rw [mk 57 (by omega), h57]) (by rw [mk 58 (by omega), h58])
  generalize teP (M 36) (M 35 1) 162 0 0 q0 = r at *
  obtain ⟨y1, y2, y5, y6, y7, ty⟩ := ty
  rcases tx with ⟨r0, ev, a2, tt, em⟩ | ⟨rn, ev, a2, em⟩
  · rcases ty with ⟨_, ev2, c22, c0, c1, N, pg, e54⟩ | ⟨w, _⟩
    · have c9 : Cht (mupd A 35 1 0) 9 := Cht_eq tt.1 (fun k a b => mupd_ne _ _ _ (by omega))
      have q9 : ∀ k : Nat, k ≠ 35 → mupd A 35 1 0 k = A k := fun k w => mupd_ne _ _ _ w
      have p19 : cpP 1 9 := Or.inl ⟨rfl, rfl⟩
      have cc := cpy_cht p19 c9
      have k1 : ∀ {i : Int}, 0 ≤ i → i < 36 → cpyM (mupd A 35 1 0) 1 9 2 i = mupd A 35 1 0 10 i := fun a c => cpy_1 _ (by omega) a c
      have k2 : ∀ {i : Int}, 0 ≤ i → i < 4 → cpyM (mupd A 35 1 0) 1 9 3 i = mupd A 35 1 0 11 i := fun a c => cpy_2 _ (by omega) a c
      have k3 : ∀ {i : Int}, 0 ≤ i → i < 20 → cpyM (mupd A 35 1 0) 1 9 4 i = mupd A 35 1 0 12 i := fun a c => cpy_3 _ (by omega) a c
      have k5 : cpyM (mupd A 35 1 0) 1 9 1 5 = mupd A 35 1 0 9 5 := cpy_5 _ (by omega)
      have k6 : cpyM (mupd A 35 1 0) 1 9 1 6 = mupd A 35 1 0 9 6 := cpy_6 _ (by omega)
      have kn : ∀ k : Nat, k < 1 ∨ 9 ≤ k → cpyM (mupd A 35 1 0) 1 9 k = mupd A 35 1 0 k := fun k w => cpy_ne _ (by omega)
      have b35 : mupd A 35 1 0 35 1 = 0 ∧ mupd A 35 1 0 35 2 = 0 := ⟨by rw [mupd_at, fup_at], by rw [mupd_at, fup_ne _ _ (by decide), a2]⟩
      rw [q9 10 (by decide)] at k1
      rw [q9 11 (by decide)] at k2
      rw [q9 12 (by decide)] at k3
      rw [q9 9 (by decide)] at k5 k6
      generalize hC : cpyM (mupd A 35 1 0) 1 9 = C at *
      obtain ⟨_, t1, t2, t3, t5, t6, t8, t9⟩ := tt
      obtain ⟨g1, g2, g3, g4, g5, g6, _, _⟩ := pg
      have mC : ∀ k : Nat, k ≠ 0 → k ≠ 17 → k ≠ 26 → m k = C k := fun k w0 w1 w2 => by rw [em, mupd_ne _ _ _ w2, mupd_ne _ _ _ w1, mupd_ne _ _ _ w0]
      have m8 : ∀ k : Nat, 1 ≤ k → k ≤ 8 → m2 k = C k := fun k w w2 => by rw [y1 k (by omega) (by omega) (by omega) (by omega), mC k (by omega) (by omega) (by omega)]
      have mA : ∀ k : Nat, (18 ≤ k ∧ k ≤ 25) ∨ 27 ≤ k → k ≠ 35 → k ≠ 53 → k ≠ 54 → k ≠ 55 → k ≠ 63 → m2 k = M k := fun k w w1 w2 w3 w4 w5 => by rw [y1 k w2 w3 w4 w5, mC k (by omega) (by omega) (by omega), kn k (by omega), q9 k w1, lf.1 k (by omega) w1]
      have m17 : m2 17 1 = 0 := by rw [y1 17 (by decide) (by decide) (by decide) (by decide), em, mupd_ne _ _ _ (by decide), mupd_at, fup_at]
      have m26 : m2 26 1 = 0 := by rw [y1 26 (by decide) (by decide) (by decide) (by decide), em, mupd_at, fup_at]
      have m13 : m2 0 13 = 0 := by rw [y1 0 (by decide) (by decide) (by decide) (by decide), em, mupd_ne _ _ _ (by decide), mupd_ne _ _ _ (by decide), mupd_at, fup_at]
      have m16 : m2 0 16 = M 0 16 := by rw [y1 0 (by decide) (by decide) (by decide) (by decide), em, mupd_ne _ _ _ (by decide), mupd_ne _ _ _ (by decide), mupd_at, fup_ne _ _ (by decide), kn 0 (by omega), q9 0 (by decide), lf.1 0 (by omega) (by decide)]
      have m35 : m2 35 = mupd A 35 1 0 35 := by rw [y1 35 (by decide) (by decide) (by decide) (by decide), mC 35 (by decide) (by decide) (by decide), kn 35 (by omega)]
      have l5 := g6
      rw [ev] at r1
      rw [ev2] at r2
      refine ⟨_, m, m2, r1, r2, Cht_eq cc (fun k a b => m8 k a (by omega)), Pg_of0 ⟨?_, ?_, ?_, ?_, ?_, ?_⟩, ⟨Or.inl m17, by rw [c0, m17], fun w => absurd w (by omega)⟩, ⟨Or.inl m26, by rw [c1, m26], fun w => absurd w (by omega)⟩, ⟨?_, ?_, ?_, ?_⟩, ⟨?_, ?_, ?_⟩, ?_, ?_, ?_, ?_⟩
      · intro i a c
        rw [e54 i a (by omega), g1 i a c, m8 2 (by decide) (by decide), k1 a c, t1 i a c]
      · intro c a z
        rw [e54 (35 + c) (by omega) (by omega), g2 c a z, m8 3 (by decide) (by decide), k2 (by omega) (by omega), t2 c a z]
      · rw [e54 39 (by omega) (by omega), g3, m8 1 (by decide) (by decide), k5, t5]
      · intro l x a1 b1 a2 b2
        rw [m8 1 (by decide) (by decide), k5, t5] at b1
        rw [e54 (40 + 5 * x + l) (by omega) (by omega), g4 l x a1 b1 a2 b2, m8 4 (by decide) (by decide), k3 (by omega) (by omega), t3 _ (by omega) (by omega)]
      · rw [e54 60 (by omega) (by omega), g5, m8 1 (by decide) (by decide), k6, t6]
      · intro i a w
        rw [m8 1 (by decide) (by decide), k6, t6] at w
        exact absurd w (by omega)
      · rw [m35, b35.1]
        omega
      · rw [m35, b35.1, y5]
      · rw [m35, b35.2, y6, r0]
      · intro i a w
        rw [m35, b35.1] at w
        exact absurd w (by omega)
      · rw [m13]
        omega
      · rw [m13, c22]
      · intro i a w
        rw [m13] at w
        exact absurd w (by omega)
      · exact ShI_fr hh (fun k w => mA k (by omega) (by omega) (by omega) (by omega) (by omega) (by omega))
      · rw [m16, y2 30 (by decide) (by decide), mk 53 (by omega), ho]
      · rw [mA 57 (by omega) (by decide) (by decide) (by decide) (by decide) (by decide), h57]
      · rw [mA 58 (by omega) (by decide) (by decide) (by decide) (by decide) (by decide), h58]
    · omega
  · rcases ty with ⟨w, _⟩ | ⟨_, ev2, c22, c63, c54⟩
    · exact absurd w rn
    · rw [ev] at r1
      rw [ev2] at r2
      have ek : ∀ k : Nat, (k < 9 ∨ 17 ≤ k) → k ≠ 35 → k ≠ 53 → k ≠ 54 → k ≠ 55 → k ≠ 63 → m2 k = M k := fun k w w1 w2 w3 w4 w5 => by rw [y1 k w2 w3 w4 w5, em, mupd_ne _ _ _ w1, lf.1 k w w1]
      have e63 : m2 63 = M 63 := by rw [c63, mk 63 (by omega)]
      have e54 : m2 54 = M 54 := by rw [c54, mk 54 (by omega)]
      have s1 : m2 35 1 = 0 := by rw [y1 35 (by decide) (by decide) (by decide) (by decide), em, mupd_at, fup_at]
      have s2 : m2 35 2 = r.1 := by rw [y1 35 (by decide) (by decide) (by decide) (by decide), em, mupd_at, fup_ne _ _ (by decide), a2]
      refine ⟨_, m, m2, r1, r2, Inv_ch h (fun k w => ?_) (fun i _ _ => by rw [e54]) ⟨by rw [s1]; omega, by rw [s1, y5], by rw [s2, y6], fun i a w => ?_⟩ (SeI_fr hs ?_ ?_ ?_ ?_ ?_) (ShI_fr hh (fun k w => ek k (by omega) (by omega) (by omega) (by omega) (by omega) (by omega))) ?_⟩
      · by_cases k63 : k = 63
        · rw [k63, e63]
        · exact ek k (by omega) (by omega) (by omega) (by omega) (by omega) k63
      · rw [s1] at w
        exact absurd w (by omega)
      · rw [ek 0 (by omega) (by decide) (by decide) (by decide) (by decide) (by decide)]
      · rw [c22, mk 53 (by omega)]
      · exact ek 60 (by omega) (by decide) (by decide) (by decide) (by decide) (by decide)
      · exact ek 40 (by omega) (by decide) (by decide) (by decide) (by decide) (by decide)
      · exact ek 41 (by omega) (by decide) (by decide) (by decide) (by decide) (by decide)
      · rw [ek 0 (by omega) (by decide) (by decide) (by decide) (by decide) (by decide), y2 30 (by decide) (by decide), mk 53 (by omega), ho]
