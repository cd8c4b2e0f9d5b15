/-! PURE PROOFS 16: forget -/
theorem P_forget {M : mMem} (h : Inv M) (n : Int) : PairI 74 173 [vi n] M := by
  have ht := h.2.2.2.2.1
  have hs := h.2.2.2.2.2.1
  have hh := h.2.2.2.2.2.2.1
  have ho := h.2.2.2.2.2.2.2.1
  have a1 := R_L_forget 9 M n
  by_cases c : 0 ≤ n ∧ n ≤ M 0 13
  · rw [if_pos c, if_pos c] at a1
    have a2 := R_M_forget 8 (mupd M 0 13 n) n
    have e5 : mupd M 0 13 n 53 22 = M 0 13 := by
      rw [mupd_ne _ _ _ (by decide)]
      exact hs.2.1
    rw [e5, if_pos c, if_pos c] at a2
    refine ⟨_, _, _, a1, a2, ?_⟩
    have e : ∀ k : Nat, k ≠ 0 → k ≠ 53 → mupd (mupd M 0 13 n) 53 22 n k = M k := fun k h1 h2 => by rw [mupd_ne _ _ _ h2, mupd_ne _ _ _ h1]
    have e0 : mupd (mupd M 0 13 n) 53 22 n 0 = fup (M 0) 13 n := by rw [mupd_ne _ _ _ (by decide), mupd_at]
    have e53 : mupd (mupd M 0 13 n) 53 22 n 53 = fup (M 53) 22 n := by rw [mupd_at, mupd_ne _ _ _ (by decide)]
    refine Inv_ch h (fun k hk => e k (by omega) (by omega)) (fun i _ _ => by rw [e 54 (by decide) (by decide)]) ?_ ?_ (ShI_fr hh (fun k hk => e k (by omega) (by omega))) ?_
    · exact TaI_fr ht (by rw [e 35 (by decide) (by decide)]) (by rw [e 35 (by decide) (by decide)]) (by rw [e53, fup_ne _ _ (by decide)]) (by rw [e53, fup_ne _ _ (by decide)]) (e 56 (by decide) (by decide)) (e 36 (by decide) (by decide))
    · unfold SeI
      rw [e0, e53, e 60 (by decide) (by decide), e 40 (by decide) (by decide), e 41 (by decide) (by decide), fup_at, fup_at]
      have t1 : 0 ≤ M 0 13 ∧ M 0 13 ≤ 6 := hs.1
      exact ⟨by omega, rfl, fun i h0 h1 => hs.2.2 i h0 (by omega)⟩
    · rw [e0, e53, fup_ne _ _ (by decide), fup_ne _ _ (by decide)]
      exact ho
  · rw [if_neg c, if_neg c] at a1
    have a2 := R_M_forget 8 M n
    rw [hs.2.1, if_neg c, if_neg c] at a2
    exact ⟨_, _, _, a1, a2, h⟩
