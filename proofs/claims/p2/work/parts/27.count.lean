/-! PURE PROOFS 5: sums and counts -/
def sm (g : Nat → Int) : Nat → Int
  | 0 => 0
  | n + 1 => sm g n + g n
theorem sm_cong {g h : Nat → Int} : ∀ {n : Nat}, (∀ k, k < n → g k = h k) → sm g n = sm h n
  | 0, _ => rfl
  | n + 1, q => by
    show sm g n + g n = sm h n + h n
    rw [sm_cong (fun k hk => q k (by omega)), q n (by omega)]
theorem sm_le {g h : Nat → Int} : ∀ {n : Nat}, (∀ k, k < n → g k ≤ h k) → sm g n ≤ sm h n
  | 0, _ => by show (0 : Int) ≤ 0; omega
  | n + 1, q => by
    show sm g n + g n ≤ sm h n + h n
    have h1 := sm_le (g := g) (h := h) (n := n) (fun k hk => q k (by omega))
    have h2 := q n (by omega)
    omega
theorem sm_0 : ∀ n : Nat, sm (fun _ => 0) n = 0
  | 0 => rfl
  | n + 1 => by
    show sm (fun _ => 0) n + 0 = 0
    rw [sm_0 n]
    rfl
/-- a sum, changed at one place -/
theorem sm_up {g h : Nat → Int} {j : Nat} (q : ∀ k, k ≠ j → h k = g k) : ∀ n : Nat, sm h n = sm g n + (if j < n then h j - g j else 0)
  | 0 => by
    rw [if_neg (by omega)]
    rfl
  | n + 1 => by
    show sm h n + h n = sm g n + g n + _
    rw [sm_up q n]
    by_cases hj : j = n
    · subst hj
      rw [if_neg (by omega), if_pos (by omega)]
      omega
    · rw [q n (fun e => hj e.symm)]
      by_cases hl : j < n
      · rw [if_pos hl, if_pos (by omega)]
        omega
      · rw [if_neg hl, if_neg (by omega)]
        omega
def fup (f : Int → Int) (i v : Int) : Int → Int := fun x => if x = i then v else f x
def cB (f : Int → Int) (a c : Int) : Int := sm (fun k => b2 (f (k : Nat) = a ∧ f ((k : Nat) + 6) = c)) 30
def cA (f : Int → Int) (a c : Int) : Int := sm (fun k => b2 ((k : Int) % 6 < 5 ∧ f (k : Nat) = a ∧ f ((k : Nat) + 1) = c)) 36
theorem b2_le (c : Prop) [Decidable c] : 0 ≤ b2 c ∧ b2 c ≤ 1 := by unfold b2; split <;> omega
theorem b2_mono {c e : Prop} [Decidable c] [Decidable e] (h : c → e) : b2 c ≤ b2 e := by
  unfold b2
  split <;> split <;> first | omega | (exfalso; simp_all)
theorem b2_iff {c e : Prop} [Decidable c] [Decidable e] (h : c ↔ e) : b2 c = b2 e := by
  unfold b2
  by_cases hc : c
  · rw [if_pos hc, if_pos (h.mp hc)]
  · rw [if_neg hc, if_neg (fun q => hc (h.mpr q))]
theorem cB_rng (f : Int → Int) (a c : Int) : 0 ≤ cB f a c ∧ cB f a c ≤ 30 := by
  unfold cB
  have h1 := sm_le (g := fun _ => 0) (h := fun k : Nat => b2 (f (k : Nat) = a ∧ f ((k : Nat) + 6) = c)) (n := 30) (fun k _ => (b2_le _).1)
  have h2 := sm_le (g := fun k : Nat => b2 (f (k : Nat) = a ∧ f ((k : Nat) + 6) = c)) (h := fun _ => 1) (n := 30) (fun k _ => (b2_le _).2)
  rw [sm_0] at h1
  exact ⟨h1, h2⟩
theorem cA_rng (f : Int → Int) (a c : Int) : 0 ≤ cA f a c ∧ cA f a c ≤ 30 := by
  unfold cA
  have h1 := sm_le (g := fun _ => 0) (h := fun k : Nat => b2 ((k : Int) % 6 < 5 ∧ f (k : Nat) = a ∧ f ((k : Nat) + 1) = c)) (n := 36) (fun k _ => (b2_le _).1)
  have h2 := sm_le (g := fun k : Nat => b2 ((k : Int) % 6 < 5 ∧ f (k : Nat) = a ∧ f ((k : Nat) + 1) = c)) (h := fun k : Nat => b2 ((k : Int) % 6 < 5)) (n := 36) (fun k _ => b2_mono (fun q => q.1))
  have h3 : sm (fun k : Nat => b2 ((k : Int) % 6 < 5)) 36 = 30 := by decide +kernel
  rw [sm_0] at h1
  rw [h3] at h2
  exact ⟨h1, h2⟩
theorem cB_cong {f g : Int → Int} (h : ∀ i, 0 ≤ i → i < 36 → f i = g i) (a c : Int) : cB f a c = cB g a c := by
  unfold cB
  refine sm_cong (fun k hk => ?_)
  rw [h k (by omega) (by omega), h (k + 6) (by omega) (by omega)]
theorem cA_cong {f g : Int → Int} (h : ∀ i, 0 ≤ i → i < 36 → f i = g i) (a c : Int) : cA f a c = cA g a c := by
  unfold cA
  refine sm_cong (fun k hk => b2_iff ⟨fun q => ?_, fun q => ?_⟩)
  · have h1 : (k : Int) + 1 < 36 := by omega
    rw [h k (by omega) (by omega), h (k + 1) (by omega) h1] at q
    exact q
  · have h1 : (k : Int) + 1 < 36 := by omega
    rw [← h k (by omega) (by omega), ← h (k + 1) (by omega) h1] at q
    exact q
/-- what lies around a place, by the first's and the second's shade -/
def dB (f : Int → Int) (t a c : Int) : Int := b2 (6 ≤ t ∧ f (t - 6) = a ∧ f t = c) + b2 (t < 30 ∧ f t = a ∧ f (t + 6) = c)
def dA (f : Int → Int) (t a c : Int) : Int := b2 (0 < t % 6 ∧ f (t - 1) = a ∧ f t = c) + b2 (t % 6 < 5 ∧ f t = a ∧ f (t + 1) = c)
theorem cB_up (f : Int → Int) {t v : Int} (h0 : 0 ≤ t) (h1 : t < 36) (a c : Int) : cB (fup f t v) a c = cB f a c - dB f t a c + dB (fup f t v) t a c := by
  obtain ⟨j, rfl⟩ : ∃ j : Nat, t = j := ⟨t.toNat, by omega⟩
  -- first the place itself, then the one to the left
  have key : ∀ n : Nat, n ≤ 30 → sm (fun k => b2 (fup f j v (k : Nat) = a ∧ fup f j v ((k : Nat) + 6) = c)) n = sm (fun k => b2 (f (k : Nat) = a ∧ f ((k : Nat) + 6) = c)) n
      + (if j < n then b2 (fup f j v j = a ∧ fup f j v (j + 6) = c) - b2 (f j = a ∧ f (j + 6) = c) else 0)
      + (if 6 ≤ j ∧ j < n + 6 then b2 (fup f j v (j - 6) = a ∧ fup f j v j = c) - b2 (f (j - 6) = a ∧ f j = c) else 0) := by
    intro n
    induction n with
    | zero => intro _; rw [if_neg (by omega), if_neg (by omega)]; rfl
    | succ n ih =>
      intro hn
      have ih := ih (by omega)
      show sm _ n + b2 (fup f j v (n : Nat) = a ∧ fup f j v ((n : Nat) + 6) = c) = (sm _ n + b2 (f (n : Nat) = a ∧ f ((n : Nat) + 6) = c)) + _ + _
      rw [ih]
      by_cases e1 : j = n
      · subst e1
        rw [if_neg (show ¬ j < j by omega), if_pos (show j < j + 1 by omega)]
        by_cases e2 : 6 ≤ j ∧ j < j + 6
        · rw [if_pos e2, if_pos (show 6 ≤ j ∧ j < j + 1 + 6 by omega)]
          omega
        · rw [if_neg e2, if_neg (show ¬ (6 ≤ j ∧ j < j + 1 + 6) by omega)]
          omega
      · by_cases e2 : j = n + 6
        · subst e2
          rw [if_neg (show ¬ n + 6 < n by omega), if_neg (show ¬ n + 6 < n + 1 by omega), if_neg (show ¬ (6 ≤ n + 6 ∧ n + 6 < n + 6) by omega), if_pos (show 6 ≤ n + 6 ∧ n + 6 < n + 1 + 6 by omega)]
          have e3 : (((n + 6 : Nat) : Int) - 6) = (n : Nat) := by omega
          have e4 : ((n + 6 : Nat) : Int) = (n : Nat) + 6 := by omega
          rw [e3, e4]
          omega
        · have e5 : fup f j v (n : Nat) = f (n : Nat) := by unfold fup; rw [if_neg (by omega)]
          have e6 : fup f j v ((n : Nat) + 6) = f ((n : Nat) + 6) := by unfold fup; rw [if_neg (by omega)]
          rw [e5, e6]
          by_cases e7 : j < n
          · rw [if_pos e7, if_pos (show j < n + 1 by omega)]
            by_cases e8 : 6 ≤ j ∧ j < n + 6
            · rw [if_pos e8, if_pos (show 6 ≤ j ∧ j < n + 1 + 6 by omega)]
              omega
            · rw [if_neg e8, if_neg (show ¬ (6 ≤ j ∧ j < n + 1 + 6) by omega)]
              omega
          · rw [if_neg e7, if_neg (show ¬ j < n + 1 by omega)]
            by_cases e8 : 6 ≤ j ∧ j < n + 6
            · rw [if_pos e8, if_pos (show 6 ≤ j ∧ j < n + 1 + 6 by omega)]
              omega
            · rw [if_neg e8, if_neg (show ¬ (6 ≤ j ∧ j < n + 1 + 6) by omega)]
              omega
  unfold cB
  rw [key 30 (by omega)]
  unfold dB
  have b1 : ∀ g : Int → Int, b2 (6 ≤ (j : Int) ∧ g (j - 6) = a ∧ g j = c) = if 6 ≤ j ∧ j < 36 then b2 (g (j - 6) = a ∧ g j = c) else 0 := by
    intro g
    by_cases e : 6 ≤ j ∧ j < 36
    · rw [if_pos e]
      exact b2_iff ⟨fun q => q.2, fun q => ⟨by omega, q⟩⟩
    · rw [if_neg e]
      exact b2_f (fun q => e ⟨by omega, by omega⟩)
  have b3 : ∀ g : Int → Int, b2 ((j : Int) < 30 ∧ g j = a ∧ g (j + 6) = c) = if j < 30 then b2 (g j = a ∧ g (j + 6) = c) else 0 := by
    intro g
    by_cases e : j < 30
    · rw [if_pos e]
      exact b2_iff ⟨fun q => q.2, fun q => ⟨by omega, q⟩⟩
    · rw [if_neg e]
      exact b2_f (fun q => e (by omega))
  rw [b1 f, b1 (fup f j v), b3 f, b3 (fup f j v)]
  by_cases e1 : j < 30
  · rw [if_pos e1, if_pos e1, if_pos e1]
    by_cases e2 : 6 ≤ j ∧ j < 30 + 6
    · rw [if_pos e2, if_pos (show 6 ≤ j ∧ j < 36 by omega), if_pos (show 6 ≤ j ∧ j < 36 by omega)]
      omega
    · rw [if_neg e2, if_neg (show ¬ (6 ≤ j ∧ j < 36) by omega), if_neg (show ¬ (6 ≤ j ∧ j < 36) by omega)]
      omega
  · rw [if_neg e1, if_neg e1, if_neg e1]
    by_cases e2 : 6 ≤ j ∧ j < 30 + 6
    · rw [if_pos e2, if_pos (show 6 ≤ j ∧ j < 36 by omega), if_pos (show 6 ≤ j ∧ j < 36 by omega)]
      omega
    · rw [if_neg e2, if_neg (show ¬ (6 ≤ j ∧ j < 36) by omega), if_neg (show ¬ (6 ≤ j ∧ j < 36) by omega)]
      omega
