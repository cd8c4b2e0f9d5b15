/-! PURE PROOFS 58: a new object keeps what holds between two calls -/
theorem mz_ne (M : mMem) {k j : Nat} (h : j ≠ k) : mzero M k j = M j := by
  funext i
  unfold mzero
  rw [if_neg h]
theorem mz_at (M : mMem) (k : Nat) (i : Int) : mzero M k k i = 0 := by
  unfold mzero
  rw [if_pos rfl]
theorem mMn_lo (M : mMem) {j : Nat} (h : j < 54) : mMn M j = M j := by
  unfold mMn
  repeat' (first | rw [mz_ne _ (show j ≠ _ by omega)] | rw [mupd_ne _ _ _ (show j ≠ _ by omega)])
theorem mS1_ne (M : mMem) {k j : Nat} (h : j < k ∨ k + 1 < j) : mS1 M k j = M j := by
  unfold mS1
  rw [mupd_ne _ _ _ (by omega), mz_ne _ (by omega), mz_ne _ (by omega)]
theorem mCin_ne (M : mMem) {k j : Nat} (h : j < k ∨ k + 8 ≤ j) : mCin M k j = M j := by
  unfold mCin mclear
  rw [mupd_ne _ _ _ (by omega), mupd_ne _ _ _ (by omega), mfill_ne _ _ _ (by omega), mupd_ne _ _ _ (by omega), mupd_ne _ _ _ (by omega), mfill_ne _ _ _ (by omega), mfill_ne _ _ _ (by omega), mfill_ne _ _ _ (by omega), mz_ne _ (by omega), mz_ne _ (by omega), mz_ne _ (by omega), mz_ne _ (by omega), mz_ne _ (by omega), mz_ne _ (by omega), mz_ne _ (by omega)]
theorem mLn_lo (M : mMem) {j : Nat} (h : j < 35) : mLn M j = mLn1 M j := by
  unfold mLn
  rw [mS1_ne _ (by omega), mS1_ne _ (by omega), mS1_ne _ (by omega), mS1_ne _ (by omega)]
  unfold mLn2
  repeat' (first | rw [mz_ne _ (show j ≠ _ by omega)])
theorem mLn1_lo (M : mMem) {j : Nat} (h : 1 ≤ j ∧ j < 9) : mLn1 M j = mCin (mzero M 1) 1 j := by
  unfold mLn1
  rw [mCin_ne _ (by omega), mz_ne _ (by omega), mz_ne _ (by omega), mCin_ne _ (by omega), mz_ne _ (by omega), mz_ne _ (by omega), mCin_ne _ (by omega), mz_ne _ (by omega)]
theorem M0_lo {j : Nat} (h : 1 ≤ j ∧ j < 9) : M0 j = mCin (mzero (mzero (fun _ _ => 0) 0) 1) 1 j := by
  unfold M0
  rw [mMn_lo _ (by omega), mz_ne _ (by omega), mLn_lo _ (by omega), mLn1_lo _ h]
theorem M0_1 (i : Int) : M0 1 i = 0 := by
  rw [M0_lo (by omega)]
  unfold mCin mclear
  rw [mupd_at]
  unfold fup
  split
  · rfl
  · rw [mupd_at]
    unfold fup
    split
    · rfl
    · rw [mfill_ne _ _ _ (by decide), mupd_ne _ _ _ (by decide), mupd_ne _ _ _ (by decide), mfill_ne _ _ _ (by decide), mfill_ne _ _ _ (by decide), mfill_ne _ _ _ (by decide), mz_ne _ (by decide), mz_ne _ (by decide), mz_ne _ (by decide), mz_ne _ (by decide), mz_ne _ (by decide), mz_ne _ (by decide), mz_ne _ (by decide), mz_at]
theorem M0_2 (i : Int) (h0 : 0 ≤ i) (h1 : i < 36) : M0 2 i = 0 := by
  rw [M0_lo (by omega)]
  unfold mCin mclear
  rw [mupd_ne _ _ _ (by decide), mupd_ne _ _ _ (by decide), mfill_ne _ _ _ (by decide), mupd_ne _ _ _ (by decide), mupd_ne _ _ _ (by decide), mfill_ne _ _ _ (by decide), mfill_ne _ _ _ (by decide)]
  exact mfill_at _ h0 (by omega)
theorem M0_3 (i : Int) (h0 : 0 ≤ i) (h1 : i < 4) : M0 3 i = 20 := by
  rw [M0_lo (by omega)]
  unfold mCin mclear
  rw [mupd_ne _ _ _ (by decide), mupd_ne _ _ _ (by decide)]
  exact mfill_at _ h0 (by omega)
theorem M0_7 (i : Int) (h0 : 0 ≤ i) (h1 : i < 25) : M0 7 i = if i = 0 then 30 else 0 := by
  rw [M0_lo (by omega)]
  unfold mCin mclear
  rw [mupd_ne _ _ _ (by decide), mupd_ne _ _ _ (by decide), mfill_ne _ _ _ (by decide), mupd_ne _ _ _ (by decide)]
  refine (congrFun (mupd_at _ 7 0 30) i).trans ?_
  unfold fup
  split
  · rfl
  · rw [mfill_ne _ _ _ (by decide)]
    exact mfill_at _ h0 (by omega)
theorem M0_8 (i : Int) (h0 : 0 ≤ i) (h1 : i < 25) : M0 8 i = if i = 0 then 30 else 0 := by
  rw [M0_lo (by omega)]
  unfold mCin mclear
  rw [mupd_ne _ _ _ (by decide), mupd_ne _ _ _ (by decide), mfill_ne _ _ _ (by decide)]
  refine (congrFun (mupd_at _ 8 0 30) i).trans ?_
  unfold fup
  split
  · rfl
  · rw [mupd_ne _ _ _ (by decide)]
    exact mfill_at _ h0 (by omega)
theorem M0_54 (i : Int) : M0 54 i = 0 := rfl
theorem M0_63 (i : Int) : M0 63 i = 0 := rfl
theorem M0_53 (i : Int) : M0 53 i = 0 := by
  unfold M0
  rw [mMn_lo _ (by omega)]
  exact mz_at _ 53 i
theorem M0_35 (i : Int) : M0 35 i = 0 := rfl
theorem M0_0 (i : Int) : M0 0 i = 0 := by
  unfold M0
  rw [mMn_lo _ (by omega), mz_ne _ (by omega), mLn_lo _ (by omega)]
  unfold mLn1
  rw [mCin_ne _ (by omega), mz_ne _ (by omega), mz_ne _ (by omega), mCin_ne _ (by omega), mz_ne _ (by omega), mz_ne _ (by omega), mCin_ne _ (by omega), mz_ne _ (by omega), mCin_ne _ (by omega), mz_ne _ (by omega)]
  exact mz_at _ 0 i
theorem M0_17 (i : Int) : M0 17 i = 0 := by
  unfold M0
  rw [mMn_lo _ (by omega), mz_ne _ (by omega), mLn_lo _ (by omega)]
  unfold mLn1
  rw [mCin_ne _ (by omega), mz_ne _ (by omega), mz_ne _ (by omega), mCin_ne _ (by omega), mz_ne _ (by omega)]
  exact mz_at _ 17 i
theorem M0_26 (i : Int) : M0 26 i = 0 := by
  unfold M0
  rw [mMn_lo _ (by omega), mz_ne _ (by omega), mLn_lo _ (by omega)]
  unfold mLn1
  rw [mCin_ne _ (by omega), mz_ne _ (by omega)]
  exact mz_at _ 26 i
theorem M0_sh : ∀ k : Nat, k < 4 → M0 (45 + 2 * k) 2 = -1 ∧ M0 64 k = -4 := by decide +kernel
theorem Inv0 : Inv M0 := by
  have b5 : M0 1 5 = 0 := M0_1 5
  have b6 : M0 1 6 = 0 := M0_1 6
  have z2 : ∀ a c : Int, 0 ≤ a ∧ a ≤ 4 → 0 ≤ c ∧ c ≤ 4 → cB (M0 2) a c = (if 5 * a + c = 0 then 30 else 0) ∧ cA (M0 2) a c = (if 5 * a + c = 0 then 30 else 0) := by
    intro a c ha hc
    rw [cB_cong (g := fun _ => 0) M0_2, cA_cong (g := fun _ => 0) M0_2]
    by_cases q : 5 * a + c = 0
    · rw [if_pos q, show a = 0 by omega, show c = 0 by omega]
      exact ⟨by decide +kernel, by decide +kernel⟩
    · rw [if_neg q]
      refine ⟨?_, ?_⟩
      · exact (sm_cong (h := fun _ => 0) (fun k _ => b2_f (fun w => q (by have u : (0 : Int) = a := w.1; have v : (0 : Int) = c := w.2; omega)))).trans (sm_0 30)
      · exact (sm_cong (h := fun _ => 0) (fun k _ => b2_f (fun w => q (by have u : (0 : Int) = a := w.2.1; have v : (0 : Int) = c := w.2.2; omega)))).trans (sm_0 36)
  refine ⟨⟨⟨fun i a b => ?_, fun a c ha hc => ?_, fun a c ha hc => ?_⟩, ?_, fun l a b => ?_, ?_, fun i a b => ?_, fun c a b => ?_⟩, Pg_of0 ⟨fun i a b => ?_, fun c a b => ?_, ?_, fun l x a b => ?_, ?_, fun i a b => ?_⟩, ⟨Or.inl (M0_17 1), ?_, fun q => ?_⟩, ⟨Or.inl (M0_26 1), ?_, fun q => ?_⟩, ⟨?_, ?_, ?_, fun i a b => ?_⟩, ⟨?_, ?_, fun i a b => ?_⟩, fun k hk => Or.inl (M0_sh k hk), ?_, rfl, rfl⟩
  · have e : M0 (1 + 1) i = 0 := M0_2 i a b
    omega
  · have e : M0 (1 + 6) (5 * a + c) = if 5 * a + c = 0 then 30 else 0 := M0_7 _ (by omega) (by omega)
    rw [e]
    exact (z2 a c ha hc).1.symm
  · have e : M0 (1 + 7) (5 * a + c) = if 5 * a + c = 0 then 30 else 0 := M0_8 _ (by omega) (by omega)
    rw [e]
    exact (z2 a c ha hc).2.symm
  · omega
  · exact absurd b (by omega)
  · omega
  · exact absurd b (by omega)
  · have e : M0 (1 + 2) c = 20 := M0_3 c (by omega) (by omega)
    omega
  · rw [M0_54, M0_2 i a b]
  · rw [M0_54, M0_3 c (by omega) (by omega)]
    rfl
  · rw [M0_54, b5]
  · exact absurd b (by omega)
  · rw [M0_54, b6]
  · exact absurd b (by omega)
  · rw [M0_63, M0_17]
  · rw [M0_17] at q
    exact absurd q (by decide)
  · rw [M0_63, M0_26]
  · rw [M0_26] at q
    exact absurd q (by decide)
  · rw [M0_35]
    decide
  · rw [M0_53, M0_35]
  · rw [M0_53, M0_35]
  · rw [M0_35] at b
    exact absurd b (by omega)
  · rw [M0_0]
    decide
  · rw [M0_53, M0_0]
  · rw [M0_0] at b
    exact absurd b (by omega)
  · rw [M0_0, M0_53]
