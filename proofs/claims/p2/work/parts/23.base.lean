/-! PURE PROOFS 1: helpers, Arrays.fill, the objects' beginnings -/
theorem mTag_i {sh : mSh} {k t n : Nat} {c : Nat → Prop} (h : sh.1[k]? = some (t, n)) (hc : c n) : mTag sh k t c := by
  unfold mTag
  rw [h]
  simp [hc]
theorem w32_s {z : Int} (h0 : -2147483648 ≤ z) (h1 : z < 2147483648) : w32 z = z := w32_id ⟨h0, h1⟩
def mfill (M : mMem) (k : Nat) (n v : Int) : mMem := fun k' i => if k' = k ∧ 0 ≤ i ∧ i < n then v else M k' i
theorem mfill_0 (M : mMem) (k : Nat) (v : Int) : mfill M k 0 v = M := by
  funext k' i
  unfold mfill
  rw [if_neg (by omega)]
theorem mfill_s (M : mMem) (k : Nat) {i : Int} (v : Int) (h : 0 ≤ i) : mupd (mfill M k i v) k i v = mfill M k (i + 1) v := by
  funext k' j
  unfold mupd mfill
  by_cases h1 : k' = k
  · by_cases h2 : j = i
    · rw [if_pos ⟨h1, h2⟩, if_pos ⟨h1, by omega, by omega⟩]
    · rw [if_neg (fun q => h2 q.2)]
      by_cases h3 : 0 ≤ j ∧ j < i
      · rw [if_pos ⟨h1, h3⟩, if_pos ⟨h1, by omega, by omega⟩]
      · rw [if_neg (fun q => h3 q.2), if_neg (fun q => h3 ⟨q.2.1, by omega⟩)]
  · rw [if_neg (fun q => h1 q.1), if_neg (fun q => h1 q.1), if_neg (fun q => h1 q.1)]
theorem R_fill (d : Nat) (sh : mSh) (M : mMem) (k n : Nat) (v : Int) (hk : sh.1[k]? = some (0, n)) (hn : n ≤ 1000) : mR3 (d + 1) 190 [vr k, vi v] (sh, M) (none, (sh, mfill M k n v)) := by
  refine ⟨⟨by decide, Nat.le_of_ble_eq_true rfl⟩, fun K hK => ?_⟩
  have hK : mClo m_A_fill (mR3 d) (sh.1.length, mtot sh.1) (0, fun _ => 0) (mret (none, (sh, mfill M k n v))) K := hK
  have loop : ∀ (j : Nat) (i : Int), 0 ≤ i → i + j = n → K 5 [(0, vr k), (1, vi v), (2, vi i), (3, vi (n : Int))] [] (sh, mfill M k i v) := by
    intro j
    induction j with
    | zero =>
      intro i h0 hi
      refine hK 1 5 b_A_fill_5 rfl _ _ _ (And.intro (fun _ => ?_) (fun q => absurd (show (n : Int) ≤ i by omega) q))
      refine hK 2 20 b_A_fill_20 rfl _ _ _ ?_
      exact And.intro rfl (by rw [show i = (n : Int) by omega])
    | succ j ih =>
      intro i h0 hi
      refine hK 1 5 b_A_fill_5 rfl _ _ _ (And.intro (fun q => absurd (show (n : Int) ≤ i from q) (by omega)) (fun _ => ?_))
      refine mTag_i hk (mIn_i h0 (by omega) ?_)
      have h1 := ih (i + 1) (by omega) (by omega)
      have e1 : w32 (i + 1) = i + 1 := w32_s (by omega) (by omega)
      rw [← mfill_s M k v h0, ← e1] at h1
      exact h1
  refine hK 0 0 b_A_fill_0 rfl _ _ _ ?_
  refine mTag_i hk ?_
  have h1 := loop n 0 (by omega) (by omega)
  rw [mfill_0] at h1
  exact h1
theorem mRef_i {sh : mSh} {k j t : Nat} {c : Nat → Prop} (h : sh.2.lookup (k, j) = some t) (hc : c t) : mRef sh k j c := by
  unfold mRef
  rw [h]
  exact hc
theorem mB_i {b : Bool} {p : Prop} (h : b = true) (hp : p) : mB b p := by
  rw [h]
  exact hp
def mclear (M : mMem) (k : Nat) : mMem := mupd (mupd (mfill (mupd (mupd (mfill (mfill (mfill M (k + 1) (36 : Nat) 0) (k + 6) (25 : Nat) 0) (k + 7) (25 : Nat) 0) (k + 6) 0 30) (k + 7) 0 30) (k + 2) (4 : Nat) 20) k (5 : Nat) 0) k (6 : Nat) 0
/-- a charter lies at k -/
def isCh (sh : mSh) (k : Nat) : Prop := sh.1[k]? = some (3, 11) ∧ (sh.2.lookup (k, 0) = some (k + 1) ∧ sh.1[k + 1]? = some (0, 36)) ∧ (sh.2.lookup (k, 1) = some (k + 2) ∧ sh.1[k + 2]? = some (0, 4)) ∧ (sh.2.lookup (k, 9) = some (k + 6) ∧ sh.1[k + 6]? = some (0, 25)) ∧ (sh.2.lookup (k, 10) = some (k + 7) ∧ sh.1[k + 7]? = some (0, 25))
theorem R_clear (d : Nat) (sh : mSh) (M : mMem) (k : Nat) (hc : isCh sh k) : mR3 (d + 2) 1 [vr k] (sh, M) (none, (sh, mclear M k)) := by
  obtain ⟨h0, ⟨r1, h1⟩, ⟨r2, h2⟩, ⟨r6, h6⟩, r7, h7⟩ := hc
  refine ⟨⟨by decide, Nat.le_of_ble_eq_true rfl⟩, fun K hK => ?_⟩
  have hK : mClo m_C_clear (mR3 (d + 1)) (sh.1.length, mtot sh.1) (0, fun _ => 0) (mret (none, (sh, mclear M k))) K := hK
  refine hK 0 0 b_C_clear_0 rfl _ _ _ ?_
  refine mTag_i h0 (mRef_i r1 (mB_i rfl (Exists.intro _ (And.intro (R_fill d sh _ (k + 1) 36 0 h1 (by decide)) ?_))))
  refine mTag_i h0 (mRef_i r6 (mB_i rfl (Exists.intro _ (And.intro (R_fill d sh _ (k + 6) 25 0 h6 (by decide)) ?_))))
  refine mTag_i h0 (mRef_i r7 (mB_i rfl (Exists.intro _ (And.intro (R_fill d sh _ (k + 7) 25 0 h7 (by decide)) ?_))))
  refine mTag_i h0 (mRef_i r6 (mTag_i h6 (mIn_i (by decide) (by decide) ?_)))
  refine mTag_i h0 (mRef_i r7 (mTag_i h7 (mIn_i (by decide) (by decide) ?_)))
  refine mTag_i h0 (mRef_i r2 (mB_i rfl (Exists.intro _ (And.intro (R_fill d sh _ (k + 2) 4 20 h2 (by decide)) ?_))))
  refine mTag_i h0 (mTag_i h0 ?_)
  exact And.intro rfl rfl
/-- the shape when n cells and r references stand -/
def shA (n r : Nat) : mSh := (S0.1.take n, S0.2.drop (S0.2.length - r))
