/-! PURE PROOFS 6: the tallies of a charter, put -/
theorem cA_up (f : Int → Int) {t v : Int} (h0 : 0 ≤ t) (h1 : t < 36) (a c : Int) : cA (fup f t v) a c = cA f a c - dA f t a c + dA (fup f t v) t a c := by
  obtain ⟨j, rfl⟩ : ∃ j : Nat, t = j := ⟨t.toNat, by omega⟩
  have key : ∀ n : Nat, sm (fun k => b2 ((k : Int) % 6 < 5 ∧ fup f j v (k : Nat) = a ∧ fup f j v ((k : Nat) + 1) = c)) n = sm (fun k => b2 ((k : Int) % 6 < 5 ∧ f (k : Nat) = a ∧ f ((k : Nat) + 1) = c)) n
      + (if j < n then b2 ((j : Int) % 6 < 5 ∧ fup f j v j = a ∧ fup f j v (j + 1) = c) - b2 ((j : Int) % 6 < 5 ∧ f j = a ∧ f (j + 1) = c) else 0)
      + (if 1 ≤ j ∧ j < n + 1 then b2 (((j : Int) - 1) % 6 < 5 ∧ fup f j v (j - 1) = a ∧ fup f j v j = c) - b2 (((j : Int) - 1) % 6 < 5 ∧ f (j - 1) = a ∧ f j = c) else 0) := by
    intro n
    induction n with
    | zero => rw [if_neg (by omega), if_neg (by omega)]; rfl
    | succ n ih =>
      show sm _ n + b2 ((n : Int) % 6 < 5 ∧ fup f j v (n : Nat) = a ∧ fup f j v ((n : Nat) + 1) = c) = (sm _ n + b2 ((n : Int) % 6 < 5 ∧ f (n : Nat) = a ∧ f ((n : Nat) + 1) = c)) + _ + _
      rw [ih]
      by_cases e1 : j = n
      · subst e1
        rw [if_neg (show ¬ j < j by omega), if_pos (show j < j + 1 by omega)]
        by_cases e2 : 1 ≤ j ∧ j < j + 1
        · rw [if_pos e2, if_pos (show 1 ≤ j ∧ j < j + 1 + 1 by omega)]
          omega
        · rw [if_neg e2, if_neg (show ¬ (1 ≤ j ∧ j < j + 1 + 1) by omega)]
          omega
      · by_cases e2 : j = n + 1
        · subst e2
          rw [if_neg (show ¬ n + 1 < n by omega), if_neg (show ¬ n + 1 < n + 1 by omega), if_neg (show ¬ (1 ≤ n + 1 ∧ n + 1 < n + 1) by omega), if_pos (show 1 ≤ n + 1 ∧ n + 1 < n + 1 + 1 by omega)]
          have e3 : (((n + 1 : Nat) : Int) - 1) = (n : Nat) := by omega
          have e4 : ((n + 1 : Nat) : Int) = (n : Nat) + 1 := by omega
          rw [e3, e4]
          omega
        · have e5 : fup f j v (n : Nat) = f (n : Nat) := by unfold fup; rw [if_neg (by omega)]
          have e6 : fup f j v ((n : Nat) + 1) = f ((n : Nat) + 1) := by unfold fup; rw [if_neg (by omega)]
          rw [e5, e6]
          by_cases e7 : j < n
          · rw [if_pos e7, if_pos (show j < n + 1 by omega)]
            by_cases e8 : 1 ≤ j ∧ j < n + 1
            · rw [if_pos e8, if_pos (show 1 ≤ j ∧ j < n + 1 + 1 by omega)]
              omega
            · rw [if_neg e8, if_neg (show ¬ (1 ≤ j ∧ j < n + 1 + 1) by omega)]
              omega
          · rw [if_neg e7, if_neg (show ¬ j < n + 1 by omega)]
            by_cases e8 : 1 ≤ j ∧ j < n + 1
            · rw [if_pos e8, if_pos (show 1 ≤ j ∧ j < n + 1 + 1 by omega)]
              omega
            · rw [if_neg e8, if_neg (show ¬ (1 ≤ j ∧ j < n + 1 + 1) by omega)]
              omega
  unfold cA
  rw [key 36]
  unfold dA
  have b1 : ∀ g : Int → Int, b2 (0 < (j : Int) % 6 ∧ g (j - 1) = a ∧ g j = c) = if 1 ≤ j ∧ j < 36 + 1 then b2 (((j : Int) - 1) % 6 < 5 ∧ g (j - 1) = a ∧ g j = c) else 0 := by
    intro g
    by_cases e : 1 ≤ j ∧ j < 36 + 1
    · rw [if_pos e]
      exact b2_iff ⟨fun q => ⟨by omega, q.2⟩, fun q => ⟨by omega, q.2⟩⟩
    · rw [if_neg e]
      exact b2_f (fun q => e ⟨by omega, by omega⟩)
  rw [b1 f, b1 (fup f j v), if_pos (show j < 36 by omega)]
  by_cases e2 : 1 ≤ j ∧ j < 36 + 1
  · rw [if_pos e2, if_pos e2, if_pos e2]
    omega
  · rw [if_neg e2, if_neg e2, if_neg e2]
    omega
def bump (m : mMem) (k : Nat) (i x : Int) : mMem := mupd m k i (w32 (m k i + x))
def cbump (c : Prop) [Decidable c] (m : mMem) (k : Nat) (i x : Int) : mMem := if c then bump m k i x else m
theorem mupd_ne (m : mMem) {k k' : Nat} (i v : Int) (h : k' ≠ k) : mupd m k i v k' = m k' := by
  funext j
  unfold mupd
  rw [if_neg (fun q => h q.1)]
theorem mupd_at (m : mMem) (k : Nat) (i v : Int) : mupd m k i v k = fup (m k) i v := by
  funext j
  unfold mupd fup
  by_cases h : j = i
  · rw [if_pos ⟨rfl, h⟩, if_pos h]
  · rw [if_neg (fun q => h q.2), if_neg h]
theorem cbump_ne (c : Prop) [Decidable c] (m : mMem) {k k' : Nat} (i x : Int) (h : k' ≠ k) : cbump c m k i x k' = m k' := by
  unfold cbump
  split
  · exact mupd_ne _ _ _ h
  · rfl
theorem cbump_at (e : Prop) [Decidable e] (m : mMem) (k : Nat) {p q x a c : Int} (hx : x = 1 ∨ x = -1) (hp : e → (0 ≤ p ∧ p ≤ 4) ∧ 0 ≤ q ∧ q ≤ 4) (ha : 0 ≤ a ∧ a ≤ 4) (hc : 0 ≤ c ∧ c ≤ 4) (hr : -100000 ≤ m k (5 * a + c) ∧ m k (5 * a + c) ≤ 100000) :
    cbump e m k (5 * p + q) x k (5 * a + c) = m k (5 * a + c) + x * b2 (e ∧ p = a ∧ q = c) := by
  unfold cbump
  by_cases he : e
  · have hp := hp he
    rw [if_pos he]
    unfold bump mupd
    by_cases h : p = a ∧ q = c
    · obtain ⟨h1, h2⟩ := h
      rw [h1, h2, if_pos ⟨rfl, rfl⟩, b2_t ⟨he, rfl, rfl⟩, w32_s (by omega) (by omega)]
      omega
    · rw [if_neg (fun z => h (by omega)), b2_f (fun z => h z.2)]
      omega
  · rw [if_neg he, b2_f (fun z => he z.1)]
    omega
def tallyM (M : mMem) (b : Nat) (t x : Int) : mMem :=
  cbump (t % 6 < 5) (cbump (0 < t % 6) (cbump (t < 30) (cbump (6 ≤ t) M (b + 6) (5 * M (b + 1) (t - 6) + M (b + 1) t) x) (b + 6) (5 * M (b + 1) t + M (b + 1) (t + 6)) x) (b + 7) (5 * M (b + 1) (t - 1) + M (b + 1) t) x) (b + 7) (5 * M (b + 1) t + M (b + 1) (t + 1)) x
def celOK (f : Int → Int) : Prop := ∀ i, 0 ≤ i → i < 36 → 0 ≤ f i ∧ f i ≤ 4
theorem tally_ne (M : mMem) (b : Nat) (t x : Int) {k : Nat} (h6 : k ≠ b + 6) (h7 : k ≠ b + 7) : tallyM M b t x k = M k := by
  unfold tallyM
  rw [cbump_ne _ _ _ _ h7, cbump_ne _ _ _ _ h7, cbump_ne _ _ _ _ h6, cbump_ne _ _ _ _ h6]
theorem dB_rng (f : Int → Int) (t a c : Int) : 0 ≤ dB f t a c ∧ dB f t a c ≤ 2 := by
  unfold dB
  have h1 := b2_le (6 ≤ t ∧ f (t - 6) = a ∧ f t = c)
  have h2 := b2_le (t < 30 ∧ f t = a ∧ f (t + 6) = c)
  omega
theorem dA_rng (f : Int → Int) (t a c : Int) : 0 ≤ dA f t a c ∧ dA f t a c ≤ 2 := by
  unfold dA
  have h1 := b2_le (0 < t % 6 ∧ f (t - 1) = a ∧ f t = c)
  have h2 := b2_le (t % 6 < 5 ∧ f t = a ∧ f (t + 1) = c)
  omega
theorem tally_B (M : mMem) (b : Nat) {t x a c : Int} (hx : x = 1 ∨ x = -1) (ht : 0 ≤ t ∧ t < 36) (hf : celOK (M (b + 1))) (ha : 0 ≤ a ∧ a ≤ 4) (hc : 0 ≤ c ∧ c ≤ 4) (hr : -1000 ≤ M (b + 6) (5 * a + c) ∧ M (b + 6) (5 * a + c) ≤ 1000) :
    tallyM M b t x (b + 6) (5 * a + c) = M (b + 6) (5 * a + c) + x * dB (M (b + 1)) t a c := by
  unfold tallyM
  have h0 := hf t ht.1 ht.2
  rw [cbump_ne _ _ _ _ (show b + 6 ≠ b + 7 by omega), cbump_ne _ _ _ _ (show b + 6 ≠ b + 7 by omega)]
  have e1 := cbump_at (6 ≤ t) M (b + 6) (p := M (b + 1) (t - 6)) (q := M (b + 1) t) hx (fun q => ⟨hf (t - 6) (by omega) (by omega), h0⟩) ha hc (by omega)
  have r1 := b2_le (6 ≤ t ∧ M (b + 1) (t - 6) = a ∧ M (b + 1) t = c)
  have e2 := cbump_at (t < 30) (cbump (6 ≤ t) M (b + 6) (5 * M (b + 1) (t - 6) + M (b + 1) t) x) (b + 6) (p := M (b + 1) t) (q := M (b + 1) (t + 6)) hx (fun q => ⟨h0, hf (t + 6) (by omega) (by omega)⟩) ha hc (by rw [e1]; rcases hx with h | h <;> rw [h] <;> omega)
  rw [e2, e1]
  unfold dB
  rcases hx with h | h <;> rw [h] <;> omega
theorem tally_A (M : mMem) (b : Nat) {t x a c : Int} (hx : x = 1 ∨ x = -1) (ht : 0 ≤ t ∧ t < 36) (hf : celOK (M (b + 1))) (ha : 0 ≤ a ∧ a ≤ 4) (hc : 0 ≤ c ∧ c ≤ 4) (hr : -1000 ≤ M (b + 7) (5 * a + c) ∧ M (b + 7) (5 * a + c) ≤ 1000) :
    tallyM M b t x (b + 7) (5 * a + c) = M (b + 7) (5 * a + c) + x * dA (M (b + 1)) t a c := by
  unfold tallyM
  have h0 := hf t ht.1 ht.2
  have e0 : (cbump (t < 30) (cbump (6 ≤ t) M (b + 6) (5 * M (b + 1) (t - 6) + M (b + 1) t) x) (b + 6) (5 * M (b + 1) t + M (b + 1) (t + 6)) x) (b + 7) = M (b + 7) := by
    rw [cbump_ne _ _ _ _ (show b + 7 ≠ b + 6 by omega), cbump_ne _ _ _ _ (show b + 7 ≠ b + 6 by omega)]
  generalize (cbump (t < 30) (cbump (6 ≤ t) M (b + 6) (5 * M (b + 1) (t - 6) + M (b + 1) t) x) (b + 6) (5 * M (b + 1) t + M (b + 1) (t + 6)) x) = m0 at e0 ⊢
  have e1 := cbump_at (0 < t % 6) m0 (b + 7) (p := M (b + 1) (t - 1)) (q := M (b + 1) t) hx (fun q => ⟨hf (t - 1) (by omega) (by omega), h0⟩) ha hc (by rw [e0]; omega)
  have r1 := b2_le (0 < t % 6 ∧ M (b + 1) (t - 1) = a ∧ M (b + 1) t = c)
  rw [e0] at e1
  have e2 := cbump_at (t % 6 < 5) (cbump (0 < t % 6) m0 (b + 7) (5 * M (b + 1) (t - 1) + M (b + 1) t) x) (b + 7) (p := M (b + 1) t) (q := M (b + 1) (t + 1)) hx (fun q => ⟨h0, hf (t + 1) (by omega) (by omega)⟩) ha hc (by rw [e1]; rcases hx with h | h <;> rw [h] <;> omega)
  rw [e2, e1]
  unfold dA
  rcases hx with h | h <;> rw [h] <;> omega
theorem ix5 {p q : Int} (hp : 0 ≤ p ∧ p ≤ 4) (hq : 0 ≤ q ∧ q ≤ 4) : w32 (w32 (p * 5) + q) = 5 * p + q := by
  rw [w32_s (z := p * 5) (by omega) (by omega), w32_s (by omega) (by omega)]
  omega
theorem R_tallyAround (d : Nat) (M : mMem) (b : Nat) (hb : b = 1 ∨ b = 9) (t x : Int) (ht : 0 ≤ t ∧ t < 36) (hf : celOK (M (b + 1))) : mR3 (d + 1) 4 [vr b, vi t, vi x] (S0, M) (none, (S0, tallyM M b t x)) := by
  refine ⟨⟨by decide, Nat.le_of_ble_eq_true rfl⟩, fun K hK => q_C_tallyAround_0 hK b t x M hb ?_⟩
  have h0 := hf t ht.1 ht.2
  have d1 : jdiv t 6 = t / 6 := jdiv_nn ht.1 (by omega) (by omega)
  have d2 : jrem t 6 = t % 6 := jrem_nn ht.1
  rw [d1, d2]
  have s100 : ∀ m : mMem, m (b + 1) = M (b + 1) → cbump (t % 6 < 5) m (b + 7) (5 * M (b + 1) t + M (b + 1) (t + 1)) x = tallyM M b t x → K 100 [(0, vr b), (1, vi t), (2, vi x), (3, vi (M (b + 1) t)), (5, vi (t % 6))] [] (S0, m) := by
    intro m hm hr
    refine q_C_tallyAround_100 hK b t x _ _ m hb ⟨fun h => ?_, fun h => ?_⟩
    · refine mret_n ?_
      rw [← hr]
      unfold cbump
      rw [if_neg (by omega)]
    · have h1 := hf (t + 1) (by omega) (by omega)
      have e1 : w32 (t + 1) = t + 1 := w32_s (by omega) (by omega)
      have e2 : w32 (w32 (M (b + 1) t * 5) + m (b + 1) (w32 (t + 1))) = 5 * M (b + 1) t + M (b + 1) (t + 1) := by
        rw [e1, hm]
        exact ix5 h0 h1
      rw [e2, e1]
      refine mIn_i (by omega) (by omega) (mIn_i (by omega) (by omega) (mIn_i (by omega) (by omega) (mret_n ?_)))
      rw [← hr]
      unfold cbump
      rw [if_pos (by omega)]
      rfl
  have s74 : ∀ m : mMem, m (b + 1) = M (b + 1) → cbump (t % 6 < 5) (cbump (0 < t % 6) m (b + 7) (5 * M (b + 1) (t - 1) + M (b + 1) t) x) (b + 7) (5 * M (b + 1) t + M (b + 1) (t + 1)) x = tallyM M b t x → K 74 [(0, vr b), (1, vi t), (2, vi x), (3, vi (M (b + 1) t)), (5, vi (t % 6))] [] (S0, m) := by
    intro m hm hr
    refine q_C_tallyAround_74 hK b t x _ _ m hb ⟨fun h => ?_, fun h => ?_⟩
    · refine s100 m hm ?_
      rw [← hr]
      unfold cbump
      rw [if_neg (show ¬ 0 < t % 6 by omega)]
    · have h1 := hf (t - 1) (by omega) (by omega)
      have e1 : w32 (t - 1) = t - 1 := w32_s (by omega) (by omega)
      have e2 : w32 (w32 (m (b + 1) (w32 (t - 1)) * 5) + M (b + 1) t) = 5 * M (b + 1) (t - 1) + M (b + 1) t := by
        rw [e1, hm]
        exact ix5 h1 h0
      rw [e2, e1]
      refine mIn_i (by omega) (by omega) (mIn_i (by omega) (by omega) (mIn_i (by omega) (by omega) (s100 _ ?_ ?_)))
      · rw [mupd_ne _ _ _ (show b + 1 ≠ b + 7 by omega), hm]
      · rw [← hr]
        have e3 : cbump (0 < t % 6) m (b + 7) (5 * M (b + 1) (t - 1) + M (b + 1) t) x = mupd m (b + 7) (5 * M (b + 1) (t - 1) + M (b + 1) t) (w32 (m (b + 7) (5 * M (b + 1) (t - 1) + M (b + 1) t) + x)) := if_pos (by omega)
        rw [e3]
  have s46 : ∀ m : mMem, m (b + 1) = M (b + 1) → cbump (t % 6 < 5) (cbump (0 < t % 6) (cbump (t < 30) m (b + 6) (5 * M (b + 1) t + M (b + 1) (t + 6)) x) (b + 7) (5 * M (b + 1) (t - 1) + M (b + 1) t) x) (b + 7) (5 * M (b + 1) t + M (b + 1) (t + 1)) x = tallyM M b t x → K 46 [(0, vr b), (1, vi t), (2, vi x), (3, vi (M (b + 1) t)), (4, vi (t / 6)), (5, vi (t % 6))] [] (S0, m) := by
    intro m hm hr
    refine q_C_tallyAround_46 hK b t x _ _ _ m hb ⟨fun h => ?_, fun h => ?_⟩
    · refine s74 m hm ?_
      rw [← hr]
      have e3 : cbump (t < 30) m (b + 6) (5 * M (b + 1) t + M (b + 1) (t + 6)) x = m := if_neg (by omega)
      rw [e3]
    · have h1 := hf (t + 6) (by omega) (by omega)
      have e1 : w32 (t + 6) = t + 6 := w32_s (by omega) (by omega)
      have e2 : w32 (w32 (M (b + 1) t * 5) + m (b + 1) (w32 (t + 6))) = 5 * M (b + 1) t + M (b + 1) (t + 6) := by
        rw [e1, hm]
        exact ix5 h0 h1
      rw [e2, e1]
      refine mIn_i (by omega) (by omega) (mIn_i (by omega) (by omega) (mIn_i (by omega) (by omega) (s74 _ ?_ ?_)))
      · rw [mupd_ne _ _ _ (show b + 1 ≠ b + 6 by omega), hm]
      · rw [← hr]
        have e3 : cbump (t < 30) m (b + 6) (5 * M (b + 1) t + M (b + 1) (t + 6)) x = mupd m (b + 6) (5 * M (b + 1) t + M (b + 1) (t + 6)) (w32 (m (b + 6) (5 * M (b + 1) t + M (b + 1) (t + 6)) + x)) := if_pos (by omega)
        rw [e3]
  refine mIn_i ht.1 (by omega) ⟨fun h => ?_, fun h => ?_⟩
  · refine s46 M rfl ?_
    have e3 : cbump (6 ≤ t) M (b + 6) (5 * M (b + 1) (t - 6) + M (b + 1) t) x = M := if_neg (by omega)
    unfold tallyM
    rw [e3]
  · have h1 := hf (t - 6) (by omega) (by omega)
    have e1 : w32 (t - 6) = t - 6 := w32_s (by omega) (by omega)
    have e2 : w32 (w32 (M (b + 1) (w32 (t - 6)) * 5) + M (b + 1) t) = 5 * M (b + 1) (t - 6) + M (b + 1) t := by
      rw [e1]
      exact ix5 h1 h0
    rw [e2, e1]
    refine mIn_i (by omega) (by omega) (mIn_i (by omega) (by omega) (mIn_i (by omega) (by omega) (s46 _ ?_ ?_)))
    · rw [mupd_ne _ _ _ (show b + 1 ≠ b + 6 by omega)]
    · have e3 : cbump (6 ≤ t) M (b + 6) (5 * M (b + 1) (t - 6) + M (b + 1) t) x = mupd M (b + 6) (5 * M (b + 1) (t - 6) + M (b + 1) t) (w32 (M (b + 6) (5 * M (b + 1) (t - 6) + M (b + 1) t) + x)) := if_pos (by omega)
      unfold tallyM
      rw [e3]
/-- the tallies of the charter at b are right -/
def Tal (M : mMem) (b : Nat) : Prop := celOK (M (b + 1)) ∧ (∀ a c : Int, 0 ≤ a ∧ a ≤ 4 → 0 ≤ c ∧ c ≤ 4 → M (b + 6) (5 * a + c) = cB (M (b + 1)) a c) ∧ (∀ a c : Int, 0 ≤ a ∧ a ≤ 4 → 0 ≤ c ∧ c ≤ 4 → M (b + 7) (5 * a + c) = cA (M (b + 1)) a c)
def putM (M : mMem) (b : Nat) (t v : Int) : mMem := if M (b + 1) t = v then M else tallyM (mupd (tallyM M b t (-1)) (b + 1) t v) b t 1
theorem fup_same {f : Int → Int} {t v : Int} (h : f t = v) : fup f t v = f := by
  funext j
  unfold fup
  by_cases e : j = t
  · rw [if_pos e, e, h]
  · rw [if_neg e]
theorem celOK_up {f : Int → Int} {t v : Int} (hf : celOK f) (hv : 0 ≤ v ∧ v ≤ 4) : celOK (fup f t v) := by
  intro i h0 h1
  unfold fup
  split
  · exact hv
  · exact hf i h0 h1
theorem put_ne (M : mMem) (b : Nat) (t v : Int) {k : Nat} (h1 : k ≠ b + 1) (h6 : k ≠ b + 6) (h7 : k ≠ b + 7) : putM M b t v k = M k := by
  unfold putM
  split
  · rfl
  · rw [tally_ne _ _ _ _ h6 h7, mupd_ne _ _ _ h1, tally_ne _ _ _ _ h6 h7]
theorem put_cel (M : mMem) (b : Nat) (t v : Int) : putM M b t v (b + 1) = fup (M (b + 1)) t v := by
  unfold putM
  split
  · exact (fup_same (by assumption)).symm
  · rw [tally_ne _ _ _ _ (by omega) (by omega), mupd_at, tally_ne _ _ _ _ (by omega) (by omega)]
theorem put_tal {M : mMem} {b : Nat} {t v : Int} (h : Tal M b) (ht : 0 ≤ t ∧ t < 36) (hv : 0 ≤ v ∧ v ≤ 4) : Tal (putM M b t v) b := by
  by_cases e : M (b + 1) t = v
  · have e1 : putM M b t v = M := if_pos e
    rw [e1]
    exact h
  · have e1 : putM M b t v = tallyM (mupd (tallyM M b t (-1)) (b + 1) t v) b t 1 := if_neg e
    have c1 := put_cel M b t v
    have m1 : (mupd (tallyM M b t (-1)) (b + 1) t v) (b + 1) = fup (M (b + 1)) t v := by rw [mupd_at, tally_ne _ _ _ _ (by omega) (by omega)]
    have m6 : (mupd (tallyM M b t (-1)) (b + 1) t v) (b + 6) = tallyM M b t (-1) (b + 6) := mupd_ne _ _ _ (by omega)
    have m7 : (mupd (tallyM M b t (-1)) (b + 1) t v) (b + 7) = tallyM M b t (-1) (b + 7) := mupd_ne _ _ _ (by omega)
    have hf : celOK (fup (M (b + 1)) t v) := celOK_up h.1 hv
    refine ⟨by rw [c1]; exact hf, fun a c ha hc => ?_, fun a c ha hc => ?_⟩
    · rw [c1, e1]
      have r0 := cB_rng (M (b + 1)) a c
      have r1 := dB_rng (M (b + 1)) t a c
      have x0 := h.2.1 a c ha hc
      have x1 := tally_B M b (x := -1) (Or.inr rfl) ht h.1 ha hc (by rw [x0]; omega)
      have x2 := tally_B (mupd (tallyM M b t (-1)) (b + 1) t v) b (x := 1) (Or.inl rfl) ht (by rw [m1]; exact hf) ha hc (by rw [m6, x1, x0]; omega)
      rw [x2, m6, x1, x0, m1, cB_up (M (b + 1)) ht.1 ht.2 a c]
      omega
    · rw [c1, e1]
      have r0 := cA_rng (M (b + 1)) a c
      have r1 := dA_rng (M (b + 1)) t a c
      have x0 := h.2.2 a c ha hc
      have x1 := tally_A M b (x := -1) (Or.inr rfl) ht h.1 ha hc (by rw [x0]; omega)
      have x2 := tally_A (mupd (tallyM M b t (-1)) (b + 1) t v) b (x := 1) (Or.inl rfl) ht (by rw [m1]; exact hf) ha hc (by rw [m7, x1, x0]; omega)
      rw [x2, m7, x1, x0, m1, cA_up (M (b + 1)) ht.1 ht.2 a c]
      omega
theorem R_put (d : Nat) (M : mMem) (b : Nat) (hb : b = 1 ∨ b = 9) (t v : Int) (ht : 0 ≤ t ∧ t < 36) (hv : 0 ≤ v ∧ v ≤ 4) (hf : celOK (M (b + 1))) : mR3 (d + 2) 3 [vr b, vi t, vi v] (S0, M) (none, (S0, putM M b t v)) := by
  refine ⟨⟨by decide, Nat.le_of_ble_eq_true rfl⟩, fun K hK => q_C_put_0 hK b t v M hb ?_⟩
  refine mIn_i ht.1 (by omega) ⟨fun h => mret_n (if_pos h).symm, fun h => ⟨_, R_tallyAround d M b hb t (-1) ht hf, mIn_i ht.1 (by omega) ⟨_, R_tallyAround d _ b hb t 1 ht ?_, mret_n (if_neg h).symm⟩⟩⟩
  rw [mupd_at, tally_ne _ _ _ _ (by omega) (by omega)]
  exact celOK_up hf hv
