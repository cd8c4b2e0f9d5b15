/-! PURE PROOFS 15: pairs of calls that change the tape or what was seen -/
theorem TaI_fr {M N : mMem} (h : TaI N) (f1 : M 35 1 = N 35 1) (f2 : M 35 2 = N 35 2) (f5 : M 53 5 = N 53 5) (f6 : M 53 6 = N 53 6) (r6 : M 56 = N 56) (r3 : M 36 = N 36) : TaI M := by
  unfold TaI
  rw [f1, f2, f5, f6, r6, r3]
  exact h
theorem SeI_fr {M N : mMem} (h : SeI N) (f1 : M 0 13 = N 0 13) (f2 : M 53 22 = N 53 22) (r0 : M 60 = N 60) (r1 : M 40 = N 40) (r2 : M 41 = N 41) : SeI M := by
  unfold SeI
  rw [f1, f2, r0, r1, r2]
  exact h
theorem ShI_fr {M N : mMem} (h : ∀ k : Nat, k < 4 → ShI N k) (r : ∀ k : Nat, (45 ≤ k ∧ k ≤ 52) ∨ (64 ≤ k ∧ k ≤ 66) → M k = N k) : ∀ k : Nat, k < 4 → ShI M k := by
  intro k hk
  unfold ShI
  rw [r (45 + 2 * k) (by omega), r (46 + 2 * k) (by omega), r 64 (by omega), r 65 (by omega), r 66 (by omega)]
  exact h k hk
theorem Inv_ch {M N : mMem} (h : Inv N) (r : ∀ k : Nat, (1 ≤ k ∧ k ≤ 8) ∨ (17 ≤ k ∧ k ≤ 34) ∨ k = 57 ∨ k = 58 ∨ k = 63 → M k = N k) (f9 : ∀ i : Int, 0 ≤ i → i < 255 → M 54 i = N 54 i) (t : TaI M) (s : SeI M) (sh : ∀ k : Nat, k < 4 → ShI M k) (o : M 0 16 = M 53 30) : Inv M := by
  obtain ⟨i1, i2, i3, i4, _, _, _, _, i9, i10⟩ := h
  have l := i1.2.1
  have m := i1.2.2.2.1
  refine ⟨Cht_eq i1 (fun k h0 h1 => r k (by omega)), Pg_fr i2 m.2 l.2 (fun k h0 h1 => r k (by omega)) (fun i h0 h1 => f9 i (by omega) (by omega)), ?_, ?_, t, s, sh, o, ?_, ?_⟩
  · exact ImI_fr i3 (r 17 (by omega)) (r 63 (by omega)) (fun k h0 h1 => r k (by omega)) (fun i h0 h1 => f9 i (by omega) (by omega))
  · exact ImI_fr i4 (r 26 (by omega)) (r 63 (by omega)) (fun k h0 h1 => r k (by omega)) (fun i h0 h1 => f9 i (by omega) (by omega))
  · rw [r 57 (by omega)]
    exact i9
  · rw [r 58 (by omega)]
    exact i10
theorem P_end {M : mMem} (h : Inv M) (n : Int) : PairI 46 117 [vi n] M := by
  have ht := h.2.2.2.2.1
  have hs := h.2.2.2.2.2.1
  have hh := h.2.2.2.2.2.2.1
  have ho := h.2.2.2.2.2.2.2.1
  have a1 := R_L_end 9 M n
  by_cases c : 0 ≤ n ∧ n ≤ M 35 1
  · rw [if_pos c, if_pos c] at a1
    have a2 := R_M_end 8 (mupd M 35 1 n) n
    have e5 : mupd M 35 1 n 53 5 = M 35 1 := by
      rw [mupd_ne _ _ _ (by decide)]
      exact ht.2.1
    rw [e5, if_pos c, if_pos c] at a2
    refine ⟨_, _, _, a1, a2, ?_⟩
    have e : ∀ k : Nat, k ≠ 35 → k ≠ 53 → mupd (mupd M 35 1 n) 53 5 n k = M k := fun k h1 h2 => by rw [mupd_ne _ _ _ h2, mupd_ne _ _ _ h1]
    have e35 : mupd (mupd M 35 1 n) 53 5 n 35 = fup (M 35) 1 n := by rw [mupd_ne _ _ _ (by decide), mupd_at]
    have e53 : mupd (mupd M 35 1 n) 53 5 n 53 = fup (M 53) 5 n := by rw [mupd_at, mupd_ne _ _ _ (by decide)]
    refine Inv_ch h (fun k hk => e k (by omega) (by omega)) (fun i _ _ => by rw [e 54 (by decide) (by decide)]) ?_ ?_ (ShI_fr hh (fun k hk => e k (by omega) (by omega))) ?_
    · unfold TaI
      rw [e35, e53, e 56 (by decide) (by decide), e 36 (by decide) (by decide), fup_at, fup_at, fup_ne _ _ (show (2 : Int) ≠ 1 by decide), fup_ne _ _ (show (6 : Int) ≠ 5 by decide)]
      have t1 : 0 ≤ M 35 1 ∧ M 35 1 ≤ 160 := ht.1
      exact ⟨by omega, rfl, ht.2.2.1, fun i h0 h1 => ht.2.2.2 i h0 (by omega)⟩
    · exact SeI_fr hs (by rw [e 0 (by decide) (by decide)]) (by rw [e53, fup_ne _ _ (by decide)]) (e 60 (by decide) (by decide)) (e 40 (by decide) (by decide)) (e 41 (by decide) (by decide))
    · rw [e 0 (by decide) (by decide), e53, fup_ne _ _ (by decide)]
      exact ho
  · rw [if_neg c, if_neg c] at a1
    have a2 := R_M_end 8 M n
    rw [ht.2.1, if_neg c, if_neg c] at a2
    exact ⟨_, _, _, a1, a2, h⟩
