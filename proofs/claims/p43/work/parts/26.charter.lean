section
/-! PURE PROOFS 4: small methods -/
theorem mret_i {v w : Int} {M M' : mMem} (h : v = w) (hm : M = M') : mret (some (vi w), (S0, M')) (some (vi v)) (S0, M) := ⟨by rw [h], by rw [hm]⟩
theorem mret_l {v w : Int} {M M' : mMem} (h : v = w) (hm : M = M') : mret (some (vl w), (S0, M')) (some (vl v)) (S0, M) := ⟨by rw [h], by rw [hm]⟩
theorem mret_n {M M' : mMem} (hm : M = M') : mret (none, (S0, M')) none (S0, M) := ⟨rfl, by rw [hm]⟩
def b2 (c : Prop) [Decidable c] : Int := if c then 1 else 0
theorem b2_t {c : Prop} [Decidable c] (h : c) : b2 c = 1 := if_pos h
theorem b2_f {c : Prop} [Decidable c] (h : ¬ c) : b2 c = 0 := if_neg h
theorem b2_01 (c : Prop) [Decidable c] : b2 c = 0 ∨ b2 c = 1 := by unfold b2; split <;> simp
theorem b2_0 {c : Prop} [Decidable c] : b2 c = 0 ↔ ¬ c := by unfold b2; split <;> simp_all
theorem b2_n0 {c : Prop} [Decidable c] : b2 c ≠ 0 ↔ c := by unfold b2; split <;> simp_all
theorem jdiv_nn {a b : Int} (h0 : 0 ≤ a) (h1 : a < 2147483648) (hb : 0 < b) : jdiv a b = a / b := by
  unfold jdiv
  rw [Int.tdiv_eq_ediv_of_nonneg h0]
  have h2 : 0 ≤ a / b := Int.ediv_nonneg h0 (by omega)
  have h3 : a / b ≤ a := Int.ediv_le_self b h0
  exact w32_s (by omega) (by omega)
theorem jrem_nn {a b : Int} (h0 : 0 ≤ a) : jrem a b = a % b := Int.tmod_eq_emod_of_nonneg h0
theorem jlcmp_lt {a b : Int} : jlcmp a b < 0 ↔ a < b := by unfold jlcmp; split <;> (try split) <;> omega
theorem jlcmp_gt {a b : Int} : 0 < jlcmp a b ↔ b < a := by unfold jlcmp; split <;> (try split) <;> omega
theorem jlcmp_eq {a b : Int} : jlcmp a b = 0 ↔ a = b := by unfold jlcmp; split <;> (try split) <;> omega
section
variable (d : Nat) (M : mMem)
theorem R_isCell (x y : Int) : mR3 (d + 1) 87 [vi x, vi y] (S0, M) (some (vi (b2 (0 ≤ x ∧ x < 6 ∧ 0 ≤ y ∧ y < 6))), (S0, M)) := by
  refine ⟨⟨by decide, Nat.le_of_ble_eq_true rfl⟩, fun K hK => q_L_isCell_0 hK x y M ?_⟩
  repeat' (first | refine br_c (fun _ => ?_) (fun _ => ?_))
  all_goals first | exact mret_i (b2_t (by omega)).symm rfl | exact mret_i (b2_f (by omega)).symm rfl
theorem R_isColour (x : Int) : mR3 (d + 1) 88 [vi x] (S0, M) (some (vi (b2 (1 ≤ x ∧ x ≤ 3))), (S0, M)) := by
  refine ⟨⟨by decide, Nat.le_of_ble_eq_true rfl⟩, fun K hK => q_L_isColour_0 hK x M ?_⟩
  repeat' (first | refine br_c (fun _ => ?_) (fun _ => ?_))
  all_goals first | exact mret_i (b2_t (by omega)).symm rfl | exact mret_i (b2_f (by omega)).symm rfl
theorem R_isPart (x : Int) : mR3 (d + 1) 89 [vi x] (S0, M) (some (vi (b2 (x = 0 ∨ x = 1))), (S0, M)) := by
  refine ⟨⟨by decide, Nat.le_of_ble_eq_true rfl⟩, fun K hK => q_L_isPart_0 hK x M ?_⟩
  repeat' (first | refine br_c (fun _ => ?_) (fun _ => ?_))
  all_goals first | exact mret_i (b2_t (by omega)).symm rfl | exact mret_i (b2_f (by omega)).symm rfl
theorem R_isSheet (x : Int) : mR3 (d + 1) 90 [vi x] (S0, M) (some (vi (b2 (0 ≤ x ∧ x < 4))), (S0, M)) := by
  refine ⟨⟨by decide, Nat.le_of_ble_eq_true rfl⟩, fun K hK => q_L_isSheet_0 hK x M ?_⟩
  repeat' (first | refine br_c (fun _ => ?_) (fun _ => ?_))
  all_goals first | exact mret_i (b2_t (by omega)).symm rfl | exact mret_i (b2_f (by omega)).symm rfl
theorem R_isLane (x : Int) : mR3 (d + 1) 91 [vi x] (S0, M) (some (vi (b2 (0 ≤ x ∧ x ≤ 2))), (S0, M)) := by
  refine ⟨⟨by decide, Nat.le_of_ble_eq_true rfl⟩, fun K hK => q_L_isLane_0 hK x M ?_⟩
  repeat' (first | refine br_c (fun _ => ?_) (fun _ => ?_))
  all_goals first | exact mret_i (b2_t (by omega)).symm rfl | exact mret_i (b2_f (by omega)).symm rfl
theorem R_isLaw (x : Int) : mR3 (d + 1) 92 [vr 0, vi x] (S0, M) (some (vi (b2 (0 ≤ x ∧ x < M 1 5))), (S0, M)) := by
  refine ⟨⟨by decide, Nat.le_of_ble_eq_true rfl⟩, fun K hK => q_L_isLaw_0 hK x M ?_⟩
  repeat' (first | refine br_c (fun _ => ?_) (fun _ => ?_))
  all_goals first | exact mret_i (b2_t (by omega)).symm rfl | exact mret_i (b2_f (by omega)).symm rfl
theorem R_isLawPart (x y : Int) : mR3 (d + 2) 93 [vi x, vi y] (S0, M) (some (vi (b2 ((x = 0 ∧ 0 ≤ y ∧ y ≤ 3) ∨ (x = 1 ∧ 1 ≤ y ∧ y ≤ 3) ∨ (x = 2 ∧ 1 ≤ y ∧ y ≤ 3) ∨ (x = 3 ∧ 1 ≤ y ∧ y ≤ 9)))), (S0, M)) := by
  refine ⟨⟨by decide, Nat.le_of_ble_eq_true rfl⟩, fun K hK => q_L_isLawPart_0 hK x y M ?_⟩
  have hc : b2 (1 ≤ y ∧ y ≤ 3) = 0 ∨ b2 (1 ≤ y ∧ y ≤ 3) = 1 := b2_01 _
  refine ⟨⟨fun _ => ?_, fun _ => ⟨_, _, R_isColour d M y, mBo_i hc ?_⟩, fun _ => ⟨_, _, R_isColour d M y, mBo_i hc ?_⟩, fun _ => ?_, trivial⟩, fun _ => ?_⟩
  · repeat' (first | refine br_c (fun _ => ?_) (fun _ => ?_))
    all_goals first | exact mret_i (b2_t (by omega)).symm rfl | exact mret_i (b2_f (by omega)).symm rfl
  · refine mret_i ?_ rfl
    unfold b2
    split <;> split <;> omega
  · refine mret_i ?_ rfl
    unfold b2
    split <;> split <;> omega
  · repeat' (first | refine br_c (fun _ => ?_) (fun _ => ?_))
    all_goals first | exact mret_i (b2_t (by omega)).symm rfl | exact mret_i (b2_f (by omega)).symm rfl
  · exact mret_i (b2_f (by omega)).symm rfl
theorem R_place {x y : Int} (hx : 0 ≤ x ∧ x < 6) (hy : 0 ≤ y ∧ y < 6) : mR3 (d + 1) 94 [vi x, vi y] (S0, M) (some (vi (6 * x + y)), (S0, M)) := by
  refine ⟨⟨by decide, Nat.le_of_ble_eq_true rfl⟩, fun K hK => q_L_place_0 hK x y M ?_⟩
  refine mret_i ?_ rfl
  unfold w32
  omega
theorem R_stitchCode {a c : Int} (ha : 0 ≤ a ∧ a < 36) (hc : 0 ≤ c ∧ c < 10) : mR3 (d + 1) 95 [vi a, vi c] (S0, M) (some (vi (100 * (a / 6) + 10 * (a % 6) + c)), (S0, M)) := by
  refine ⟨⟨by decide, Nat.le_of_ble_eq_true rfl⟩, fun K hK => q_L_stitchCode_0 hK a c M ?_⟩
  refine mret_i ?_ rfl
  rw [jdiv_nn ha.1 (by omega) (by omega), jrem_nn ha.1]
  unfold w32
  omega
theorem R_in (a b c : Int) : mR3 (d + 1) 115 [vl a, vl b, vl c] (S0, M) (some (vi (b2 (b ≤ a ∧ a ≤ c))), (S0, M)) := by
  refine ⟨⟨by decide, Nat.le_of_ble_eq_true rfl⟩, fun K hK => q_M_in_0 hK a b c M ?_⟩
  rw [jlcmp_lt, jlcmp_gt]
  repeat' (first | refine br_c (fun _ => ?_) (fun _ => ?_))
  all_goals first | exact mret_i (b2_t (by omega)).symm rfl | exact mret_i (b2_f (by omega)).symm rfl
end
end
section
/-! PURE PROOFS 5: sums and counts -/
def sm (g : Nat → Int) : Nat → Int
  | 0 => 0
  | n + 1 => sm g n + g n
theorem sm_cong {g h : Nat → Int} : ∀ {n : Nat}, (∀ k, k < n → g k = h k) → sm g n = sm h n
  | 0, _ => rfl
  | n + 1, q => by
    show sm g n + g n = sm h n + h n
    rw [sm_cong (fun k hk => q k (by omega)), q n (by omega)]
theorem sm_le {g h : Nat → Int} : ∀ {n : Nat}, (∀ k, k < n → g k ≤ h k) → sm g n ≤ sm h n
  | 0, _ => by show (0 : Int) ≤ 0; omega
  | n + 1, q => by
    show sm g n + g n ≤ sm h n + h n
    have h1 := sm_le (g := g) (h := h) (n := n) (fun k hk => q k (by omega))
    have h2 := q n (by omega)
    omega
theorem sm_0 : ∀ n : Nat, sm (fun _ => 0) n = 0
  | 0 => rfl
  | n + 1 => by
    show sm (fun _ => 0) n + 0 = 0
    rw [sm_0 n]
    rfl
/-- a sum, changed at one place -/
theorem sm_up {g h : Nat → Int} {j : Nat} (q : ∀ k, k ≠ j → h k = g k) : ∀ n : Nat, sm h n = sm g n + (if j < n then h j - g j else 0)
  | 0 => by
    rw [if_neg (by omega)]
    rfl
  | n + 1 => by
    show sm h n + h n = sm g n + g n + _
    rw [sm_up q n]
    by_cases hj : j = n
    · subst hj
      rw [if_neg (by omega), if_pos (by omega)]
      omega
    · rw [q n (fun e => hj e.symm)]
      by_cases hl : j < n
      · rw [if_pos hl, if_pos (by omega)]
        omega
      · rw [if_neg hl, if_neg (by omega)]
        omega
def fup (f : Int → Int) (i v : Int) : Int → Int := fun x => if x = i then v else f x
def cB (f : Int → Int) (a c : Int) : Int := sm (fun k => b2 (f (k : Nat) = a ∧ f ((k : Nat) + 6) = c)) 30
def cA (f : Int → Int) (a c : Int) : Int := sm (fun k => b2 ((k : Int) % 6 < 5 ∧ f (k : Nat) = a ∧ f ((k : Nat) + 1) = c)) 36
theorem b2_le (c : Prop) [Decidable c] : 0 ≤ b2 c ∧ b2 c ≤ 1 := by unfold b2; split <;> omega
theorem b2_mono {c e : Prop} [Decidable c] [Decidable e] (h : c → e) : b2 c ≤ b2 e := by
  unfold b2
  split <;> split <;> first | omega | (exfalso; simp_all)
theorem b2_iff {c e : Prop} [Decidable c] [Decidable e] (h : c ↔ e) : b2 c = b2 e := by
  unfold b2
  by_cases hc : c
  · rw [if_pos hc, if_pos (h.mp hc)]
  · rw [if_neg hc, if_neg (fun q => hc (h.mpr q))]
theorem cB_rng (f : Int → Int) (a c : Int) : 0 ≤ cB f a c ∧ cB f a c ≤ 30 := by
  unfold cB
  have h1 := sm_le (g := fun _ => 0) (h := fun k : Nat => b2 (f (k : Nat) = a ∧ f ((k : Nat) + 6) = c)) (n := 30) (fun k _ => (b2_le _).1)
  have h2 := sm_le (g := fun k : Nat => b2 (f (k : Nat) = a ∧ f ((k : Nat) + 6) = c)) (h := fun _ => 1) (n := 30) (fun k _ => (b2_le _).2)
  rw [sm_0] at h1
  exact ⟨h1, h2⟩
theorem cA_rng (f : Int → Int) (a c : Int) : 0 ≤ cA f a c ∧ cA f a c ≤ 30 := by
  unfold cA
  have h1 := sm_le (g := fun _ => 0) (h := fun k : Nat => b2 ((k : Int) % 6 < 5 ∧ f (k : Nat) = a ∧ f ((k : Nat) + 1) = c)) (n := 36) (fun k _ => (b2_le _).1)
  have h2 := sm_le (g := fun k : Nat => b2 ((k : Int) % 6 < 5 ∧ f (k : Nat) = a ∧ f ((k : Nat) + 1) = c)) (h := fun k : Nat => b2 ((k : Int) % 6 < 5)) (n := 36) (fun k _ => b2_mono (fun q => q.1))
  have h3 : sm (fun k : Nat => b2 ((k : Int) % 6 < 5)) 36 = 30 := by decide +kernel
  rw [sm_0] at h1
  rw [h3] at h2
  exact ⟨h1, h2⟩
theorem cB_cong {f g : Int → Int} (h : ∀ i, 0 ≤ i → i < 36 → f i = g i) (a c : Int) : cB f a c = cB g a c := by
  unfold cB
  refine sm_cong (fun k hk => ?_)
  rw [h k (by omega) (by omega), h (k + 6) (by omega) (by omega)]
theorem cA_cong {f g : Int → Int} (h : ∀ i, 0 ≤ i → i < 36 → f i = g i) (a c : Int) : cA f a c = cA g a c := by
  unfold cA
  refine sm_cong (fun k hk => b2_iff ⟨fun q => ?_, fun q => ?_⟩)
  · have h1 : (k : Int) + 1 < 36 := by omega
    rw [h k (by omega) (by omega), h (k + 1) (by omega) h1] at q
    exact q
  · have h1 : (k : Int) + 1 < 36 := by omega
    rw [← h k (by omega) (by omega), ← h (k + 1) (by omega) h1] at q
    exact q
/-- what lies around a place, by the first's and the second's shade -/
def dB (f : Int → Int) (t a c : Int) : Int := b2 (6 ≤ t ∧ f (t - 6) = a ∧ f t = c) + b2 (t < 30 ∧ f t = a ∧ f (t + 6) = c)
def dA (f : Int → Int) (t a c : Int) : Int := b2 (0 < t % 6 ∧ f (t - 1) = a ∧ f t = c) + b2 (t % 6 < 5 ∧ f t = a ∧ f (t + 1) = c)
theorem cB_up (f : Int → Int) {t v : Int} (h0 : 0 ≤ t) (h1 : t < 36) (a c : Int) : cB (fup f t v) a c = cB f a c - dB f t a c + dB (fup f t v) t a c := by
  obtain ⟨j, rfl⟩ : ∃ j : Nat, t = j := ⟨t.toNat, by omega⟩
  -- first the place itself, then the one to the left
  have key : ∀ n : Nat, n ≤ 30 → sm (fun k => b2 (fup f j v (k : Nat) = a ∧ fup f j v ((k : Nat) + 6) = c)) n = sm (fun k => b2 (f (k : Nat) = a ∧ f ((k : Nat) + 6) = c)) n
      + (if j < n then b2 (fup f j v j = a ∧ fup f j v (j + 6) = c) - b2 (f j = a ∧ f (j + 6) = c) else 0)
      + (if 6 ≤ j ∧ j < n + 6 then b2 (fup f j v (j - 6) = a ∧ fup f j v j = c) - b2 (f (j - 6) = a ∧ f j = c) else 0) := by
    intro n
    induction n with
    | zero => intro _; rw [if_neg (by omega), if_neg (by omega)]; rfl
    | succ n ih =>
      intro hn
      have ih := ih (by omega)
      show sm _ n + b2 (fup f j v (n : Nat) = a ∧ fup f j v ((n : Nat) + 6) = c) = (sm _ n + b2 (f (n : Nat) = a ∧ f ((n : Nat) + 6) = c)) + _ + _
      rw [ih]
      by_cases e1 : j = n
      · subst e1
        rw [if_neg (show ¬ j < j by omega), if_pos (show j < j + 1 by omega)]
        by_cases e2 : 6 ≤ j ∧ j < j + 6
        · rw [if_pos e2, if_pos (show 6 ≤ j ∧ j < j + 1 + 6 by omega)]
          omega
        · rw [if_neg e2, if_neg (show ¬ (6 ≤ j ∧ j < j + 1 + 6) by omega)]
          omega
      · by_cases e2 : j = n + 6
        · subst e2
          rw [if_neg (show ¬ n + 6 < n by omega), if_neg (show ¬ n + 6 < n + 1 by omega), if_neg (show ¬ (6 ≤ n + 6 ∧ n + 6 < n + 6) by omega), if_pos (show 6 ≤ n + 6 ∧ n + 6 < n + 1 + 6 by omega)]
          have e3 : (((n + 6 : Nat) : Int) - 6) = (n : Nat) := by omega
          have e4 : ((n + 6 : Nat) : Int) = (n : Nat) + 6 := by omega
          rw [e3, e4]
          omega
        · have e5 : fup f j v (n : Nat) = f (n : Nat) := by unfold fup; rw [if_neg (by omega)]
          have e6 : fup f j v ((n : Nat) + 6) = f ((n : Nat) + 6) := by unfold fup; rw [if_neg (by omega)]
          rw [e5, e6]
          by_cases e7 : j < n
          · rw [if_pos e7, if_pos (show j < n + 1 by omega)]
            by_cases e8 : 6 ≤ j ∧ j < n + 6
            · rw [if_pos e8, if_pos (show 6 ≤ j ∧ j < n + 1 + 6 by omega)]
              omega
            · rw [if_neg e8, if_neg (show ¬ (6 ≤ j ∧ j < n + 1 + 6) by omega)]
              omega
          · rw [if_neg e7, if_neg (show ¬ j < n + 1 by omega)]
            by_cases e8 : 6 ≤ j ∧ j < n + 6
            · rw [if_pos e8, if_pos (show 6 ≤ j ∧ j < n + 1 + 6 by omega)]
              omega
            · rw [if_neg e8, if_neg (show ¬ (6 ≤ j ∧ j < n + 1 + 6) by omega)]
              omega
  unfold cB
  rw [key 30 (by omega)]
  unfold dB
  have b1 : ∀ g : Int → Int, b2 (6 ≤ (j : Int) ∧ g (j - 6) = a ∧ g j = c) = if 6 ≤ j ∧ j < 36 then b2 (g (j - 6) = a ∧ g j = c) else 0 := by
    intro g
    by_cases e : 6 ≤ j ∧ j < 36
    · rw [if_pos e]
      exact b2_iff ⟨fun q => q.2, fun q => ⟨by omega, q⟩⟩
    · rw [if_neg e]
      exact b2_f (fun q => e ⟨by omega, by omega⟩)
  have b3 : ∀ g : Int → Int, b2 ((j : Int) < 30 ∧ g j = a ∧ g (j + 6) = c) = if j < 30 then b2 (g j = a ∧ g (j + 6) = c) else 0 := by
    intro g
    by_cases e : j < 30
    · rw [if_pos e]
      exact b2_iff ⟨fun q => q.2, fun q => ⟨by omega, q⟩⟩
    · rw [if_neg e]
      exact b2_f (fun q => e (by omega))
  rw [b1 f, b1 (fup f j v), b3 f, b3 (fup f j v)]
  by_cases e1 : j < 30
  · rw [if_pos e1, if_pos e1, if_pos e1]
    by_cases e2 : 6 ≤ j ∧ j < 30 + 6
    · rw [if_pos e2, if_pos (show 6 ≤ j ∧ j < 36 by omega), if_pos (show 6 ≤ j ∧ j < 36 by omega)]
      omega
    · rw [if_neg e2, if_neg (show ¬ (6 ≤ j ∧ j < 36) by omega), if_neg (show ¬ (6 ≤ j ∧ j < 36) by omega)]
      omega
  · rw [if_neg e1, if_neg e1, if_neg e1]
    by_cases e2 : 6 ≤ j ∧ j < 30 + 6
    · rw [if_pos e2, if_pos (show 6 ≤ j ∧ j < 36 by omega), if_pos (show 6 ≤ j ∧ j < 36 by omega)]
      omega
    · rw [if_neg e2, if_neg (show ¬ (6 ≤ j ∧ j < 36) by omega), if_neg (show ¬ (6 ≤ j ∧ j < 36) by omega)]
      omega
end
section
/-! PURE PROOFS 6: the tallies of a charter, put -/
theorem cA_up (f : Int → Int) {t v : Int} (h0 : 0 ≤ t) (h1 : t < 36) (a c : Int) : cA (fup f t v) a c = cA f a c - dA f t a c + dA (fup f t v) t a c := by
  obtain ⟨j, rfl⟩ : ∃ j : Nat, t = j := ⟨t.toNat, by omega⟩
  have key : ∀ n : Nat, sm (fun k => b2 ((k : Int) % 6 < 5 ∧ fup f j v (k : Nat) = a ∧ fup f j v ((k : Nat) + 1) = c)) n = sm (fun k => b2 ((k : Int) % 6 < 5 ∧ f (k : Nat) = a ∧ f ((k : Nat) + 1) = c)) n
      + (if j < n then b2 ((j : Int) % 6 < 5 ∧ fup f j v j = a ∧ fup f j v (j + 1) = c) - b2 ((j : Int) % 6 < 5 ∧ f j = a ∧ f (j + 1) = c) else 0)
      + (if 1 ≤ j ∧ j < n + 1 then b2 (((j : Int) - 1) % 6 < 5 ∧ fup f j v (j - 1) = a ∧ fup f j v j = c) - b2 (((j : Int) - 1) % 6 < 5 ∧ f (j - 1) = a ∧ f j = c) else 0) := by
    intro n
    induction n with
    | zero => rw [if_neg (by omega), if_neg (by omega)]; rfl
    | succ n ih =>
      show sm _ n + b2 ((n : Int) % 6 < 5 ∧ fup f j v (n : Nat) = a ∧ fup f j v ((n : Nat) + 1) = c) = (sm _ n + b2 ((n : Int) % 6 < 5 ∧ f (n : Nat) = a ∧ f ((n : Nat) + 1) = c)) + _ + _
      rw [ih]
      by_cases e1 : j = n
      · subst e1
        rw [if_neg (show ¬ j < j by omega), if_pos (show j < j + 1 by omega)]
        by_cases e2 : 1 ≤ j ∧ j < j + 1
        · rw [if_pos e2, if_pos (show 1 ≤ j ∧ j < j + 1 + 1 by omega)]
          omega
        · rw [if_neg e2, if_neg (show ¬ (1 ≤ j ∧ j < j + 1 + 1) by omega)]
          omega
      · by_cases e2 : j = n + 1
        · subst e2
          rw [if_neg (show ¬ n + 1 < n by omega), if_neg (show ¬ n + 1 < n + 1 by omega), if_neg (show ¬ (1 ≤ n + 1 ∧ n + 1 < n + 1) by omega), if_pos (show 1 ≤ n + 1 ∧ n + 1 < n + 1 + 1 by omega)]
          have e3 : (((n + 1 : Nat) : Int) - 1) = (n : Nat) := by omega
          have e4 : ((n + 1 : Nat) : Int) = (n : Nat) + 1 := by omega
          rw [e3, e4]
          omega
        · have e5 : fup f j v (n : Nat) = f (n : Nat) := by unfold fup; rw [if_neg (by omega)]
          have e6 : fup f j v ((n : Nat) + 1) = f ((n : Nat) + 1) := by unfold fup; rw [if_neg (by omega)]
          rw [e5, e6]
          by_cases e7 : j < n
          · rw [if_pos e7, if_pos (show j < n + 1 by omega)]
            by_cases e8 : 1 ≤ j ∧ j < n + 1
            · rw [if_pos e8, if_pos (show 1 ≤ j ∧ j < n + 1 + 1 by omega)]
              omega
            · rw [if_neg e8, if_neg (show ¬ (1 ≤ j ∧ j < n + 1 + 1) by omega)]
              omega
          · rw [if_neg e7, if_neg (show ¬ j < n + 1 by omega)]
            by_cases e8 : 1 ≤ j ∧ j < n + 1
            · rw [if_pos e8, if_pos (show 1 ≤ j ∧ j < n + 1 + 1 by omega)]
              omega
            · rw [if_neg e8, if_neg (show ¬ (1 ≤ j ∧ j < n + 1 + 1) by omega)]
              omega
  unfold cA
  rw [key 36]
  unfold dA
  have b1 : ∀ g : Int → Int, b2 (0 < (j : Int) % 6 ∧ g (j - 1) = a ∧ g j = c) = if 1 ≤ j ∧ j < 36 + 1 then b2 (((j : Int) - 1) % 6 < 5 ∧ g (j - 1) = a ∧ g j = c) else 0 := by
    intro g
    by_cases e : 1 ≤ j ∧ j < 36 + 1
    · rw [if_pos e]
      exact b2_iff ⟨fun q => ⟨by omega, q.2⟩, fun q => ⟨by omega, q.2⟩⟩
    · rw [if_neg e]
      exact b2_f (fun q => e ⟨by omega, by omega⟩)
  rw [b1 f, b1 (fup f j v), if_pos (show j < 36 by omega)]
  by_cases e2 : 1 ≤ j ∧ j < 36 + 1
  · rw [if_pos e2, if_pos e2, if_pos e2]
    omega
  · rw [if_neg e2, if_neg e2, if_neg e2]
    omega
def bump (m : mMem) (k : Nat) (i x : Int) : mMem := mupd m k i (w32 (m k i + x))
def cbump (c : Prop) [Decidable c] (m : mMem) (k : Nat) (i x : Int) : mMem := if c then bump m k i x else m
theorem mupd_ne (m : mMem) {k k' : Nat} (i v : Int) (h : k' ≠ k) : mupd m k i v k' = m k' := by
  funext j
  unfold mupd
  rw [if_neg (fun q => h q.1)]
theorem mupd_at (m : mMem) (k : Nat) (i v : Int) : mupd m k i v k = fup (m k) i v := by
  funext j
  unfold mupd fup
  by_cases h : j = i
  · rw [if_pos ⟨rfl, h⟩, if_pos h]
  · rw [if_neg (fun q => h q.2), if_neg h]
theorem cbump_ne (c : Prop) [Decidable c] (m : mMem) {k k' : Nat} (i x : Int) (h : k' ≠ k) : cbump c m k i x k' = m k' := by
  unfold cbump
  split
  · exact mupd_ne _ _ _ h
  · rfl
theorem cbump_at (e : Prop) [Decidable e] (m : mMem) (k : Nat) {p q x a c : Int} (hx : x = 1 ∨ x = -1) (hp : e → (0 ≤ p ∧ p ≤ 4) ∧ 0 ≤ q ∧ q ≤ 4) (ha : 0 ≤ a ∧ a ≤ 4) (hc : 0 ≤ c ∧ c ≤ 4) (hr : -100000 ≤ m k (5 * a + c) ∧ m k (5 * a + c) ≤ 100000) :
    cbump e m k (5 * p + q) x k (5 * a + c) = m k (5 * a + c) + x * b2 (e ∧ p = a ∧ q = c) := by
  unfold cbump
  by_cases he : e
  · have hp := hp he
    rw [if_pos he]
    unfold bump mupd
    by_cases h : p = a ∧ q = c
    · obtain ⟨h1, h2⟩ := h
      rw [h1, h2, if_pos ⟨rfl, rfl⟩, b2_t ⟨he, rfl, rfl⟩, w32_s (by omega) (by omega)]
      omega
    · rw [if_neg (fun z => h (by omega)), b2_f (fun z => h z.2)]
      omega
  · rw [if_neg he, b2_f (fun z => he z.1)]
    omega
def tallyM (M : mMem) (b : Nat) (t x : Int) : mMem :=
  cbump (t % 6 < 5) (cbump (0 < t % 6) (cbump (t < 30) (cbump (6 ≤ t) M (b + 6) (5 * M (b + 1) (t - 6) + M (b + 1) t) x) (b + 6) (5 * M (b + 1) t + M (b + 1) (t + 6)) x) (b + 7) (5 * M (b + 1) (t - 1) + M (b + 1) t) x) (b + 7) (5 * M (b + 1) t + M (b + 1) (t + 1)) x
def celOK (f : Int → Int) : Prop := ∀ i, 0 ≤ i → i < 36 → 0 ≤ f i ∧ f i ≤ 4
theorem tally_ne (M : mMem) (b : Nat) (t x : Int) {k : Nat} (h6 : k ≠ b + 6) (h7 : k ≠ b + 7) : tallyM M b t x k = M k := by
  unfold tallyM
  rw [cbump_ne _ _ _ _ h7, cbump_ne _ _ _ _ h7, cbump_ne _ _ _ _ h6, cbump_ne _ _ _ _ h6]
theorem dB_rng (f : Int → Int) (t a c : Int) : 0 ≤ dB f t a c ∧ dB f t a c ≤ 2 := by
  unfold dB
  have h1 := b2_le (6 ≤ t ∧ f (t - 6) = a ∧ f t = c)
  have h2 := b2_le (t < 30 ∧ f t = a ∧ f (t + 6) = c)
  omega
theorem dA_rng (f : Int → Int) (t a c : Int) : 0 ≤ dA f t a c ∧ dA f t a c ≤ 2 := by
  unfold dA
  have h1 := b2_le (0 < t % 6 ∧ f (t - 1) = a ∧ f t = c)
  have h2 := b2_le (t % 6 < 5 ∧ f t = a ∧ f (t + 1) = c)
  omega
theorem tally_B (M : mMem) (b : Nat) {t x a c : Int} (hx : x = 1 ∨ x = -1) (ht : 0 ≤ t ∧ t < 36) (hf : celOK (M (b + 1))) (ha : 0 ≤ a ∧ a ≤ 4) (hc : 0 ≤ c ∧ c ≤ 4) (hr : -1000 ≤ M (b + 6) (5 * a + c) ∧ M (b + 6) (5 * a + c) ≤ 1000) :
    tallyM M b t x (b + 6) (5 * a + c) = M (b + 6) (5 * a + c) + x * dB (M (b + 1)) t a c := by
  unfold tallyM
  have h0 := hf t ht.1 ht.2
  rw [cbump_ne _ _ _ _ (show b + 6 ≠ b + 7 by omega), cbump_ne _ _ _ _ (show b + 6 ≠ b + 7 by omega)]
  have e1 := cbump_at (6 ≤ t) M (b + 6) (p := M (b + 1) (t - 6)) (q := M (b + 1) t) hx (fun q => ⟨hf (t - 6) (by omega) (by omega), h0⟩) ha hc (by omega)
  have r1 := b2_le (6 ≤ t ∧ M (b + 1) (t - 6) = a ∧ M (b + 1) t = c)
  have e2 := cbump_at (t < 30) (cbump (6 ≤ t) M (b + 6) (5 * M (b + 1) (t - 6) + M (b + 1) t) x) (b + 6) (p := M (b + 1) t) (q := M (b + 1) (t + 6)) hx (fun q => ⟨h0, hf (t + 6) (by omega) (by omega)⟩) ha hc (by rw [e1]; rcases hx with h | h <;> rw [h] <;> omega)
  rw [e2, e1]
  unfold dB
  rcases hx with h | h <;> rw [h] <;> omega
theorem tally_A (M : mMem) (b : Nat) {t x a c : Int} (hx : x = 1 ∨ x = -1) (ht : 0 ≤ t ∧ t < 36) (hf : celOK (M (b + 1))) (ha : 0 ≤ a ∧ a ≤ 4) (hc : 0 ≤ c ∧ c ≤ 4) (hr : -1000 ≤ M (b + 7) (5 * a + c) ∧ M (b + 7) (5 * a + c) ≤ 1000) :
    tallyM M b t x (b + 7) (5 * a + c) = M (b + 7) (5 * a + c) + x * dA (M (b + 1)) t a c := by
  unfold tallyM
  have h0 := hf t ht.1 ht.2
  have e0 : (cbump (t < 30) (cbump (6 ≤ t) M (b + 6) (5 * M (b + 1) (t - 6) + M (b + 1) t) x) (b + 6) (5 * M (b + 1) t + M (b + 1) (t + 6)) x) (b + 7) = M (b + 7) := by
    rw [cbump_ne _ _ _ _ (show b + 7 ≠ b + 6 by omega), cbump_ne _ _ _ _ (show b + 7 ≠ b + 6 by omega)]
  generalize (cbump (t < 30) (cbump (6 ≤ t) M (b + 6) (5 * M (b + 1) (t - 6) + M (b + 1) t) x) (b + 6) (5 * M (b + 1) t + M (b + 1) (t + 6)) x) = m0 at e0 ⊢
  have e1 := cbump_at (0 < t % 6) m0 (b + 7) (p := M (b + 1) (t - 1)) (q := M (b + 1) t) hx (fun q => ⟨hf (t - 1) (by omega) (by omega), h0⟩) ha hc (by rw [e0]; omega)
  have r1 := b2_le (0 < t % 6 ∧ M (b + 1) (t - 1) = a ∧ M (b + 1) t = c)
  rw [e0] at e1
  have e2 := cbump_at (t % 6 < 5) (cbump (0 < t % 6) m0 (b + 7) (5 * M (b + 1) (t - 1) + M (b + 1) t) x) (b + 7) (p := M (b + 1) t) (q := M (b + 1) (t + 1)) hx (fun q => ⟨h0, hf (t + 1) (by omega) (by omega)⟩) ha hc (by rw [e1]; rcases hx with h | h <;> rw [h] <;> omega)
  rw [e2, e1]
  unfold dA
  rcases hx with h | h <;> rw [h] <;> omega
theorem ix5 {p q : Int} (hp : 0 ≤ p ∧ p ≤ 4) (hq : 0 ≤ q ∧ q ≤ 4) : w32 (w32 (p * 5) + q) = 5 * p + q := by
  rw [w32_s (z := p * 5) (by omega) (by omega), w32_s (by omega) (by omega)]
  omega
theorem R_tallyAround (d : Nat) (M : mMem) (b : Nat) (hb : b = 1 ∨ b = 9) (t x : Int) (ht : 0 ≤ t ∧ t < 36) (hf : celOK (M (b + 1))) : mR3 (d + 1) 4 [vr b, vi t, vi x] (S0, M) (none, (S0, tallyM M b t x)) := by
  refine ⟨⟨by decide, Nat.le_of_ble_eq_true rfl⟩, fun K hK => q_C_tallyAround_0 hK b t x M hb ?_⟩
  have h0 := hf t ht.1 ht.2
  have d1 : jdiv t 6 = t / 6 := jdiv_nn ht.1 (by omega) (by omega)
  have d2 : jrem t 6 = t % 6 := jrem_nn ht.1
  rw [d1, d2]
  have s100 : ∀ m : mMem, m (b + 1) = M (b + 1) → cbump (t % 6 < 5) m (b + 7) (5 * M (b + 1) t + M (b + 1) (t + 1)) x = tallyM M b t x → K 100 [(0, vr b), (1, vi t), (2, vi x), (3, vi (M (b + 1) t)), (5, vi (t % 6))] [] (S0, m) := by
    intro m hm hr
    refine q_C_tallyAround_100 hK b t x _ _ m hb ⟨fun h => ?_, fun h => ?_⟩
    · refine mret_n ?_
      rw [← hr]
      unfold cbump
      rw [if_neg (by omega)]
    · have h1 := hf (t + 1) (by omega) (by omega)
      have e1 : w32 (t + 1) = t + 1 := w32_s (by omega) (by omega)
      have e2 : w32 (w32 (M (b + 1) t * 5) + m (b + 1) (w32 (t + 1))) = 5 * M (b + 1) t + M (b + 1) (t + 1) := by
        rw [e1, hm]
        exact ix5 h0 h1
      rw [e2, e1]
      refine mIn_i (by omega) (by omega) (mIn_i (by omega) (by omega) (mIn_i (by omega) (by omega) (mret_n ?_)))
      rw [← hr]
      unfold cbump
      rw [if_pos (by omega)]
      rfl
  have s74 : ∀ m : mMem, m (b + 1) = M (b + 1) → cbump (t % 6 < 5) (cbump (0 < t % 6) m (b + 7) (5 * M (b + 1) (t - 1) + M (b + 1) t) x) (b + 7) (5 * M (b + 1) t + M (b + 1) (t + 1)) x = tallyM M b t x → K 74 [(0, vr b), (1, vi t), (2, vi x), (3, vi (M (b + 1) t)), (5, vi (t % 6))] [] (S0, m) := by
    intro m hm hr
    refine q_C_tallyAround_74 hK b t x _ _ m hb ⟨fun h => ?_, fun h => ?_⟩
    · refine s100 m hm ?_
      rw [← hr]
      unfold cbump
      rw [if_neg (show ¬ 0 < t % 6 by omega)]
    · have h1 := hf (t - 1) (by omega) (by omega)
      have e1 : w32 (t - 1) = t - 1 := w32_s (by omega) (by omega)
      have e2 : w32 (w32 (m (b + 1) (w32 (t - 1)) * 5) + M (b + 1) t) = 5 * M (b + 1) (t - 1) + M (b + 1) t := by
        rw [e1, hm]
        exact ix5 h1 h0
      rw [e2, e1]
      refine mIn_i (by omega) (by omega) (mIn_i (by omega) (by omega) (mIn_i (by omega) (by omega) (s100 _ ?_ ?_)))
      · rw [mupd_ne _ _ _ (show b + 1 ≠ b + 7 by omega), hm]
      · rw [← hr]
        have e3 : cbump (0 < t % 6) m (b + 7) (5 * M (b + 1) (t - 1) + M (b + 1) t) x = mupd m (b + 7) (5 * M (b + 1) (t - 1) + M (b + 1) t) (w32 (m (b + 7) (5 * M (b + 1) (t - 1) + M (b + 1) t) + x)) := if_pos (by omega)
        rw [e3]
  have s46 : ∀ m : mMem, m (b + 1) = M (b + 1) → cbump (t % 6 < 5) (cbump (0 < t % 6) (cbump (t < 30) m (b + 6) (5 * M (b + 1) t + M (b + 1) (t + 6)) x) (b + 7) (5 * M (b + 1) (t - 1) + M (b + 1) t) x) (b + 7) (5 * M (b + 1) t + M (b + 1) (t + 1)) x = tallyM M b t x → K 46 [(0, vr b), (1, vi t), (2, vi x), (3, vi (M (b + 1) t)), (4, vi (t / 6)), (5, vi (t % 6))] [] (S0, m) := by
    intro m hm hr
    refine q_C_tallyAround_46 hK b t x _ _ _ m hb ⟨fun h => ?_, fun h => ?_⟩
    · refine s74 m hm ?_
      rw [← hr]
      have e3 : cbump (t < 30) m (b + 6) (5 * M (b + 1) t + M (b + 1) (t + 6)) x = m := if_neg (by omega)
      rw [e3]
    · have h1 := hf (t + 6) (by omega) (by omega)
      have e1 : w32 (t + 6) = t + 6 := w32_s (by omega) (by omega)
      have e2 : w32 (w32 (M (b + 1) t * 5) + m (b + 1) (w32 (t + 6))) = 5 * M (b + 1) t + M (b + 1) (t + 6) := by
        rw [e1, hm]
        exact ix5 h0 h1
      rw [e2, e1]
      refine mIn_i (by omega) (by omega) (mIn_i (by omega) (by omega) (mIn_i (by omega) (by omega) (s74 _ ?_ ?_)))
      · rw [mupd_ne _ _ _ (show b + 1 ≠ b + 6 by omega), hm]
      · rw [← hr]
        have e3 : cbump (t < 30) m (b + 6) (5 * M (b + 1) t + M (b + 1) (t + 6)) x = mupd m (b + 6) (5 * M (b + 1) t + M (b + 1) (t + 6)) (w32 (m (b + 6) (5 * M (b + 1) t + M (b + 1) (t + 6)) + x)) := if_pos (by omega)
        rw [e3]
  refine mIn_i ht.1 (by omega) ⟨fun h => ?_, fun h => ?_⟩
  · refine s46 M rfl ?_
    have e3 : cbump (6 ≤ t) M (b + 6) (5 * M (b + 1) (t - 6) + M (b + 1) t) x = M := if_neg (by omega)
    unfold tallyM
    rw [e3]
  · have h1 := hf (t - 6) (by omega) (by omega)
    have e1 : w32 (t - 6) = t - 6 := w32_s (by omega) (by omega)
    have e2 : w32 (w32 (M (b + 1) (w32 (t - 6)) * 5) + M (b + 1) t) = 5 * M (b + 1) (t - 6) + M (b + 1) t := by
      rw [e1]
      exact ix5 h1 h0
    rw [e2, e1]
    refine mIn_i (by omega) (by omega) (mIn_i (by omega) (by omega) (mIn_i (by omega) (by omega) (s46 _ ?_ ?_)))
    · rw [mupd_ne _ _ _ (show b + 1 ≠ b + 6 by omega)]
    · have e3 : cbump (6 ≤ t) M (b + 6) (5 * M (b + 1) (t - 6) + M (b + 1) t) x = mupd M (b + 6) (5 * M (b + 1) (t - 6) + M (b + 1) t) (w32 (M (b + 6) (5 * M (b + 1) (t - 6) + M (b + 1) t) + x)) := if_pos (by omega)
      unfold tallyM
      rw [e3]
/-- the tallies of the charter at b are right -/
def Tal (M : mMem) (b : Nat) : Prop := celOK (M (b + 1)) ∧ (∀ a c : Int, 0 ≤ a ∧ a ≤ 4 → 0 ≤ c ∧ c ≤ 4 → M (b + 6) (5 * a + c) = cB (M (b + 1)) a c) ∧ (∀ a c : Int, 0 ≤ a ∧ a ≤ 4 → 0 ≤ c ∧ c ≤ 4 → M (b + 7) (5 * a + c) = cA (M (b + 1)) a c)
def putM (M : mMem) (b : Nat) (t v : Int) : mMem := if M (b + 1) t = v then M else tallyM (mupd (tallyM M b t (-1)) (b + 1) t v) b t 1
theorem fup_same {f : Int → Int} {t v : Int} (h : f t = v) : fup f t v = f := by
  funext j
  unfold fup
  by_cases e : j = t
  · rw [if_pos e, e, h]
  · rw [if_neg e]
theorem celOK_up {f : Int → Int} {t v : Int} (hf : celOK f) (hv : 0 ≤ v ∧ v ≤ 4) : celOK (fup f t v) := by
  intro i h0 h1
  unfold fup
  split
  · exact hv
  · exact hf i h0 h1
theorem put_ne (M : mMem) (b : Nat) (t v : Int) {k : Nat} (h1 : k ≠ b + 1) (h6 : k ≠ b + 6) (h7 : k ≠ b + 7) : putM M b t v k = M k := by
  unfold putM
  split
  · rfl
  · rw [tally_ne _ _ _ _ h6 h7, mupd_ne _ _ _ h1, tally_ne _ _ _ _ h6 h7]
theorem put_cel (M : mMem) (b : Nat) (t v : Int) : putM M b t v (b + 1) = fup (M (b + 1)) t v := by
  unfold putM
  split
  · exact (fup_same (by assumption)).symm
  · rw [tally_ne _ _ _ _ (by omega) (by omega), mupd_at, tally_ne _ _ _ _ (by omega) (by omega)]
theorem put_tal {M : mMem} {b : Nat} {t v : Int} (h : Tal M b) (ht : 0 ≤ t ∧ t < 36) (hv : 0 ≤ v ∧ v ≤ 4) : Tal (putM M b t v) b := by
  by_cases e : M (b + 1) t = v
  · have e1 : putM M b t v = M := if_pos e
    rw [e1]
    exact h
  · have e1 : putM M b t v = tallyM (mupd (tallyM M b t (-1)) (b + 1) t v) b t 1 := if_neg e
    have c1 := put_cel M b t v
    have m1 : (mupd (tallyM M b t (-1)) (b + 1) t v) (b + 1) = fup (M (b + 1)) t v := by rw [mupd_at, tally_ne _ _ _ _ (by omega) (by omega)]
    have m6 : (mupd (tallyM M b t (-1)) (b + 1) t v) (b + 6) = tallyM M b t (-1) (b + 6) := mupd_ne _ _ _ (by omega)
    have m7 : (mupd (tallyM M b t (-1)) (b + 1) t v) (b + 7) = tallyM M b t (-1) (b + 7) := mupd_ne _ _ _ (by omega)
    have hf : celOK (fup (M (b + 1)) t v) := celOK_up h.1 hv
    refine ⟨by rw [c1]; exact hf, fun a c ha hc => ?_, fun a c ha hc => ?_⟩
    · rw [c1, e1]
      have r0 := cB_rng (M (b + 1)) a c
      have r1 := dB_rng (M (b + 1)) t a c
      have x0 := h.2.1 a c ha hc
      have x1 := tally_B M b (x := -1) (Or.inr rfl) ht h.1 ha hc (by rw [x0]; omega)
      have x2 := tally_B (mupd (tallyM M b t (-1)) (b + 1) t v) b (x := 1) (Or.inl rfl) ht (by rw [m1]; exact hf) ha hc (by rw [m6, x1, x0]; omega)
      rw [x2, m6, x1, x0, m1, cB_up (M (b + 1)) ht.1 ht.2 a c]
      omega
    · rw [c1, e1]
      have r0 := cA_rng (M (b + 1)) a c
      have r1 := dA_rng (M (b + 1)) t a c
      have x0 := h.2.2 a c ha hc
      have x1 := tally_A M b (x := -1) (Or.inr rfl) ht h.1 ha hc (by rw [x0]; omega)
      have x2 := tally_A (mupd (tallyM M b t (-1)) (b + 1) t v) b (x := 1) (Or.inl rfl) ht (by rw [m1]; exact hf) ha hc (by rw [m7, x1, x0]; omega)
      rw [x2, m7, x1, x0, m1, cA_up (M (b + 1)) ht.1 ht.2 a c]
      omega
theorem R_put (d : Nat) (M : mMem) (b : Nat) (hb : b = 1 ∨ b = 9) (t v : Int) (ht : 0 ≤ t ∧ t < 36) (hv : 0 ≤ v ∧ v ≤ 4) (hf : celOK (M (b + 1))) : mR3 (d + 2) 3 [vr b, vi t, vi v] (S0, M) (none, (S0, putM M b t v)) := by
  refine ⟨⟨by decide, Nat.le_of_ble_eq_true rfl⟩, fun K hK => q_C_put_0 hK b t v M hb ?_⟩
  refine mIn_i ht.1 (by omega) ⟨fun h => mret_n (if_pos h).symm, fun h => ⟨_, R_tallyAround d M b hb t (-1) ht hf, mIn_i ht.1 (by omega) ⟨_, R_tallyAround d _ b hb t 1 ht ?_, mret_n (if_neg h).symm⟩⟩⟩
  rw [mupd_at, tally_ne _ _ _ _ (by omega) (by omega)]
  exact celOK_up hf hv
end
section
/-! PURE PROOFS 7: what a charter reads -/
theorem jor_0 {x : Int} (h : inR x) : jor x 0 = x := by
  unfold jor
  rw [show Int32.ofInt 0 = 0 from rfl, Int32.or_zero, i_to h]
def rA (kd p q r : Int) : Int := if kd = 0 then p else if kd = 1 then q else if kd = 2 then r else p + r
theorem rA_rng {kd p q r : Int} (hp : 0 ≤ p ∧ p ≤ 30) (hq : 0 ≤ q ∧ q ≤ 30) (hr : 0 ≤ r ∧ r ≤ 30) : 0 ≤ rA kd p q r ∧ rA kd p q r ≤ 60 := by
  unfold rA
  split
  · omega
  · split
    · omega
    · split <;> omega
def rdL (L f : Int → Int) (l : Int) : Int := rA (L (4 * l)) (cB f (L (4 * l + 1)) (L (4 * l + 2))) (cB f (L (4 * l + 2)) (L (4 * l + 1))) (cA f (L (4 * l + 1)) (L (4 * l + 2)))
def rdB (L f : Int → Int) (l : Int) : Int := rA (L (4 * l)) (cB f (L (4 * l + 2)) (L (4 * l + 1))) (cB f (L (4 * l + 1)) (L (4 * l + 2))) (cA f (L (4 * l + 1)) (L (4 * l + 2)))
theorem rdL_rng (L f : Int → Int) (l : Int) : 0 ≤ rdL L f l ∧ rdL L f l ≤ 60 := rA_rng (cB_rng _ _ _) (cB_rng _ _ _) (cA_rng _ _ _)
theorem rdB_rng (L f : Int → Int) (l : Int) : 0 ≤ rdB L f l ∧ rdB L f l ≤ 60 := rA_rng (cB_rng _ _ _) (cB_rng _ _ _) (cA_rng _ _ _)
def lawOK (L : Int → Int) (n : Int) : Prop := ∀ l, 0 ≤ l → l < n → (0 ≤ L (4 * l) ∧ L (4 * l) ≤ 3) ∧ (1 ≤ L (4 * l + 1) ∧ L (4 * l + 1) ≤ 3) ∧ (1 ≤ L (4 * l + 2) ∧ L (4 * l + 2) ≤ 3) ∧ 1 ≤ L (4 * l + 3) ∧ L (4 * l + 3) ≤ 9
def woS (L f : Int → Int) (n : Nat) : Int := sm (fun l => L (4 * (l : Int) + 3) * rdL L f l) n
theorem wr_rng {w r : Int} (hw : 1 ≤ w ∧ w ≤ 9) (hr : 0 ≤ r ∧ r ≤ 60) : 0 ≤ w * r ∧ w * r ≤ 540 := by
  have h : w = 1 ∨ w = 2 ∨ w = 3 ∨ w = 4 ∨ w = 5 ∨ w = 6 ∨ w = 7 ∨ w = 8 ∨ w = 9 := by omega
  rcases h with h | h | h | h | h | h | h | h | h <;> rw [h] <;> omega
theorem woS_rng {L f : Int → Int} : ∀ {n : Nat}, lawOK L n → 0 ≤ woS L f n ∧ woS L f n ≤ 540 * n
  | 0, _ => by
    have h : woS L f 0 = 0 := rfl
    omega
  | n + 1, h => by
    have h1 := woS_rng (L := L) (f := f) (n := n) (fun l h0 h1 => h l h0 (by omega))
    have h2 := h n (by omega) (by omega)
    have h3 := wr_rng h2.2.2.2 (rdL_rng L f n)
    have h4 : woS L f (n + 1) = woS L f n + L (4 * (n : Int) + 3) * rdL L f n := rfl
    omega
def hbF (g : Nat → Int) : Nat → Int
  | 0 => 0
  | n + 1 => jor (hbF g n) (if 0 < g n then jshl 1 n else 0)
theorem hbF_in (g : Nat → Int) : ∀ n : Nat, inR (hbF g n)
  | 0 => inR_0
  | _ + 1 => jor_in _ _
theorem hbF_cong {g h : Nat → Int} : ∀ {n : Nat}, (∀ k, k < n → g k = h k) → hbF g n = hbF h n
  | 0, _ => rfl
  | n + 1, q => by
    show jor (hbF g n) (if 0 < g n then jshl 1 n else 0) = jor (hbF h n) (if 0 < h n then jshl 1 n else 0)
    rw [hbF_cong (fun k hk => q k (by omega)), q n (by omega)]
def cO (f : Int → Int) (s : Int) (n : Nat) : Int := sm (fun k => b2 (f (k : Nat) = s)) n
theorem cO_rng (f : Int → Int) (s : Int) : ∀ n : Nat, 0 ≤ cO f s n ∧ cO f s n ≤ n
  | 0 => by
    have h : cO f s 0 = 0 := rfl
    omega
  | n + 1 => by
    have h1 := cO_rng f s n
    have h2 := b2_le (f (n : Nat) = s)
    have h4 : cO f s (n + 1) = cO f s n + b2 (f (n : Nat) = s) := rfl
    omega
section
variable (d : Nat) (M : mMem)
theorem R_canTake (b : Nat) (hb : b = 1 ∨ b = 9) (t c : Int) (ht : 0 ≤ t ∧ t < 36) (hc : 1 ≤ c ∧ c ≤ 3) : mR3 (d + 1) 5 [vr b, vi t, vi c] (S0, M) (some (vi (b2 (M (b + 1) t = 0 ∧ 0 < M (b + 2) c))), (S0, M)) := by
  refine ⟨⟨by decide, Nat.le_of_ble_eq_true rfl⟩, fun K hK => q_C_canTake_0 hK b t c M hb (mIn_i ht.1 (by omega) ⟨fun h => ?_, fun h => mIn_i (by omega) (by omega) ⟨fun h2 => ?_, fun h2 => ?_⟩⟩)⟩
  · exact mret_i (b2_f (by omega)).symm rfl
  · exact mret_i (b2_f (by omega)).symm rfl
  · exact mret_i (b2_t (by omega)).symm rfl
theorem R_take (b : Nat) (hb : b = 1 ∨ b = 9) (t c : Int) (ht : 0 ≤ t ∧ t < 36) (hc : 1 ≤ c ∧ c ≤ 3) (hf : celOK (M (b + 1))) : mR3 (d + 3) 6 [vr b, vi t, vi c] (S0, M) (none, (S0, mupd (putM M b t c) (b + 2) c (w32 (M (b + 2) c - 1)))) := by
  refine ⟨⟨by decide, Nat.le_of_ble_eq_true rfl⟩, fun K hK => q_C_take_0 hK b t c M hb ⟨_, R_put d M b hb t c ht (by omega) hf, mIn_i (by omega) (by omega) (mIn_i (by omega) (by omega) (mret_n ?_))⟩⟩
  rw [put_ne M b t c (show b + 2 ≠ b + 1 by omega) (by omega) (by omega)]
theorem R_takeBack (b : Nat) (hb : b = 1 ∨ b = 9) (t : Int) (ht : 0 ≤ t ∧ t < 36) (hf : celOK (M (b + 1))) (hc : M (b + 1) t ≤ 3) : mR3 (d + 3) 7 [vr b, vi t] (S0, M) (none, (S0, putM (mupd M (b + 2) (M (b + 1) t) (w32 (M (b + 2) (M (b + 1) t) + 1))) b t 0)) := by
  have h0 := hf t ht.1 ht.2
  refine ⟨⟨by decide, Nat.le_of_ble_eq_true rfl⟩, fun K hK => q_C_takeBack_0 hK b t M hb (mIn_i ht.1 (by omega) (mIn_i (by omega) (by omega) (mIn_i (by omega) (by omega) ⟨_, R_put d _ b hb t 0 ht (by omega) ?_, mret_n rfl⟩)))⟩
  rw [mupd_ne _ _ _ (show b + 1 ≠ b + 2 by omega)]
  exact hf
theorem R_readsAs (kd p q r : Int) (hk : 0 ≤ kd) (hp : 0 ≤ p ∧ p ≤ 30) (hr : 0 ≤ r ∧ r ≤ 30) : mR3 (d + 1) 12 [vi kd, vi p, vi q, vi r] (S0, M) (some (vi (rA kd p q r)), (S0, M)) := by
  refine ⟨⟨by decide, Nat.le_of_ble_eq_true rfl⟩, fun K hK => q_C_readsAs_0 hK kd p q r M ⟨⟨fun h => ?_, fun h => ?_, fun h => ?_, trivial⟩, fun h => ?_⟩⟩
  · refine mret_i ?_ rfl
    unfold rA
    rw [if_pos (by omega)]
  · refine mret_i ?_ rfl
    unfold rA
    rw [if_neg (by omega), if_pos (by omega)]
  · refine mret_i ?_ rfl
    unfold rA
    rw [if_neg (by omega), if_neg (by omega), if_pos (by omega)]
  · refine mret_i ?_ rfl
    unfold rA
    rw [if_neg (by omega), if_neg (by omega), if_neg (by omega), w32_s (by omega) (by omega)]
theorem R_reads (b : Nat) (hb : b = 1 ∨ b = 9) (l n : Int) (hT : Tal M b) (hL : lawOK (M (b + 3)) n) (hl : 0 ≤ l ∧ l < n) (hn : n ≤ 5) : mR3 (d + 2) 10 [vr b, vi l] (S0, M) (some (vi (rdL (M (b + 3)) (M (b + 1)) l)), (S0, M)) := by
  refine ⟨⟨by decide, Nat.le_of_ble_eq_true rfl⟩, fun K hK => q_C_reads_0 hK b l M hb ?_⟩
  obtain ⟨k0, k1, k2, _⟩ := hL l hl.1 hl.2
  have e0 : w32 (l * 4) = 4 * l := by rw [w32_s (by omega) (by omega)]; omega
  have e1 : w32 (w32 (l * 4) + 1) = 4 * l + 1 := by rw [e0, w32_s (by omega) (by omega)]
  have e2 : w32 (w32 (l * 4) + 2) = 4 * l + 2 := by rw [e0, w32_s (by omega) (by omega)]
  rw [e1, e2, e0]
  have e3 := ix5 (p := M (b + 3) (4 * l + 1)) (q := M (b + 3) (4 * l + 2)) (by omega) (by omega)
  have e4 := ix5 (p := M (b + 3) (4 * l + 2)) (q := M (b + 3) (4 * l + 1)) (by omega) (by omega)
  rw [e3, e4]
  have v1 := hT.2.1 (M (b + 3) (4 * l + 1)) (M (b + 3) (4 * l + 2)) (by omega) (by omega)
  have v2 := hT.2.1 (M (b + 3) (4 * l + 2)) (M (b + 3) (4 * l + 1)) (by omega) (by omega)
  have v3 := hT.2.2 (M (b + 3) (4 * l + 1)) (M (b + 3) (4 * l + 2)) (by omega) (by omega)
  rw [v1, v2, v3]
  exact mIn_i (by omega) (by omega) (mIn_i (by omega) (by omega) (mIn_i (by omega) (by omega) (mIn_i (by omega) (by omega) (mIn_i (by omega) (by omega) (mIn_i (by omega) (by omega) ⟨_, _, R_readsAs d M _ _ _ _ (by omega) (cB_rng _ _ _) (cA_rng _ _ _), mret_i rfl rfl⟩)))))
theorem R_readsByBack (b : Nat) (hb : b = 1 ∨ b = 9) (l n : Int) (hT : Tal M b) (hL : lawOK (M (b + 3)) n) (hl : 0 ≤ l ∧ l < n) (hn : n ≤ 5) : mR3 (d + 2) 11 [vr b, vi l] (S0, M) (some (vi (rdB (M (b + 3)) (M (b + 1)) l)), (S0, M)) := by
  refine ⟨⟨by decide, Nat.le_of_ble_eq_true rfl⟩, fun K hK => q_C_readsByBack_0 hK b l M hb ?_⟩
  obtain ⟨k0, k1, k2, _⟩ := hL l hl.1 hl.2
  have e0 : w32 (l * 4) = 4 * l := by rw [w32_s (by omega) (by omega)]; omega
  have e1 : w32 (w32 (l * 4) + 1) = 4 * l + 1 := by rw [e0, w32_s (by omega) (by omega)]
  have e2 : w32 (w32 (l * 4) + 2) = 4 * l + 2 := by rw [e0, w32_s (by omega) (by omega)]
  rw [e1, e2, e0]
  have e3 := ix5 (p := M (b + 3) (4 * l + 1)) (q := M (b + 3) (4 * l + 2)) (by omega) (by omega)
  have e4 := ix5 (p := M (b + 3) (4 * l + 2)) (q := M (b + 3) (4 * l + 1)) (by omega) (by omega)
  rw [e3, e4]
  have v1 := hT.2.1 (M (b + 3) (4 * l + 1)) (M (b + 3) (4 * l + 2)) (by omega) (by omega)
  have v2 := hT.2.1 (M (b + 3) (4 * l + 2)) (M (b + 3) (4 * l + 1)) (by omega) (by omega)
  have v3 := hT.2.2 (M (b + 3) (4 * l + 1)) (M (b + 3) (4 * l + 2)) (by omega) (by omega)
  rw [v1, v2, v3]
  exact mIn_i (by omega) (by omega) (mIn_i (by omega) (by omega) (mIn_i (by omega) (by omega) (mIn_i (by omega) (by omega) (mIn_i (by omega) (by omega) (mIn_i (by omega) (by omega) ⟨_, _, R_readsAs d M _ _ _ _ (by omega) (cB_rng _ _ _) (cA_rng _ _ _), mret_i rfl rfl⟩)))))
theorem R_worth (b : Nat) (hb : b = 1 ∨ b = 9) (n : Nat) (hn : M b 5 = n) (h5 : n ≤ 5) (hT : Tal M b) (hL : lawOK (M (b + 3)) n) : mR3 (d + 3) 13 [vr b] (S0, M) (some (vi (woS (M (b + 3)) (M (b + 1)) n)), (S0, M)) := by
  refine ⟨⟨by decide, Nat.le_of_ble_eq_true rfl⟩, fun K hK => q_C_worth_0 hK b M hb ?_⟩
  have loop : ∀ (j k : Nat), k + j = n → K 4 [(0, vr b), (1, vi (woS (M (b + 3)) (M (b + 1)) k)), (2, vi (k : Int))] [] (S0, M) := by
    intro j
    induction j with
    | zero =>
      intro k hk
      have e : k = n := by omega
      have e1 : M b 5 ≤ (k : Int) := by omega
      refine q_C_worth_4 hK b (woS (M (b + 3)) (M (b + 1)) k) (k : Int) M hb ?_
      exact br_t e1 (mret_i (by rw [e]) rfl)
    | succ j ih =>
      intro k hk
      refine q_C_worth_4 hK b _ _ M hb ⟨fun h => absurd h (by omega), fun _ => ?_⟩
      have e0 : w32 ((k : Int) * 4) = 4 * k := by rw [w32_s (by omega) (by omega)]; omega
      have e1 : w32 (w32 ((k : Int) * 4) + 3) = 4 * k + 3 := by rw [e0, w32_s (by omega) (by omega)]
      rw [e1]
      refine mIn_i (by omega) (by omega) ⟨_, _, R_reads d M b hb k n hT hL (by omega) (by omega), ?_⟩
      have h1 := ih (k + 1) (by omega)
      have r0 := woS_rng (L := M (b + 3)) (f := M (b + 1)) (n := k) (fun l h0 h1 => hL l h0 (by omega))
      have r1 := hL k (by omega) (by omega)
      have r2 := wr_rng r1.2.2.2 (rdL_rng (M (b + 3)) (M (b + 1)) k)
      have e2 : w32 (M (b + 3) (4 * (k : Int) + 3) * rdL (M (b + 3)) (M (b + 1)) k) = M (b + 3) (4 * (k : Int) + 3) * rdL (M (b + 3)) (M (b + 1)) k := w32_s (by omega) (by omega)
      have e3 : w32 (woS (M (b + 3)) (M (b + 1)) k + M (b + 3) (4 * (k : Int) + 3) * rdL (M (b + 3)) (M (b + 1)) k) = woS (M (b + 3)) (M (b + 1)) (k + 1) := by
        rw [w32_s (by omega) (by omega)]
        rfl
      have e4 : w32 ((k : Int) + 1) = ((k + 1 : Nat) : Int) := by rw [w32_s (by omega) (by omega)]; omega
      rw [e2, e3, e4]
      exact h1
  exact loop n 0 (by omega)
theorem R_heldBits (b : Nat) (hb : b = 1 ∨ b = 9) (n : Nat) (hn : M b 5 = n) (h5 : n ≤ 5) (hT : Tal M b) (hL : lawOK (M (b + 3)) n) : mR3 (d + 3) 14 [vr b] (S0, M) (some (vi (hbF (fun l => rdL (M (b + 3)) (M (b + 1)) l) n)), (S0, M)) := by
  refine ⟨⟨by decide, Nat.le_of_ble_eq_true rfl⟩, fun K hK => q_C_heldBits_0 hK b M hb ?_⟩
  have loop : ∀ (j k : Nat), k + j = n → K 4 [(0, vr b), (1, vi (hbF (fun l => rdL (M (b + 3)) (M (b + 1)) l) k)), (2, vi (k : Int))] [] (S0, M) := by
    intro j
    induction j with
    | zero =>
      intro k hk
      refine q_C_heldBits_4 hK b _ _ M hb ⟨fun _ => mret_i (by rw [show k = n by omega]) rfl, fun h => absurd (show M b 5 ≤ (k : Int) by omega) h⟩
    | succ j ih =>
      intro k hk
      refine q_C_heldBits_4 hK b _ _ M hb ⟨fun h => absurd h (by omega), fun _ => ⟨_, _, R_reads d M b hb k n hT hL (by omega) (by omega), fun h => ?_, fun h => ?_⟩⟩
      all_goals
        have h1 := ih (k + 1) (by omega)
        have e4 : w32 ((k : Int) + 1) = ((k + 1 : Nat) : Int) := by rw [w32_s (by omega) (by omega)]; omega
        rw [e4]
      · have e5 : hbF (fun l => rdL (M (b + 3)) (M (b + 1)) l) (k + 1) = hbF (fun l => rdL (M (b + 3)) (M (b + 1)) l) k := by
          show jor (hbF (fun l => rdL (M (b + 3)) (M (b + 1)) l) k) (if 0 < rdL (M (b + 3)) (M (b + 1)) k then jshl 1 k else 0) = _
          rw [if_neg (by omega), jor_0 (hbF_in _ _)]
        rw [e5] at h1
        exact h1
      · have e5 : hbF (fun l => rdL (M (b + 3)) (M (b + 1)) l) (k + 1) = jor (hbF (fun l => rdL (M (b + 3)) (M (b + 1)) l) k) (jshl 1 k) := by
          show jor (hbF (fun l => rdL (M (b + 3)) (M (b + 1)) l) k) (if 0 < rdL (M (b + 3)) (M (b + 1)) k then jshl 1 k else 0) = _
          rw [if_pos (by omega)]
        rw [e5] at h1
        exact h1
  exact loop n 0 (by omega)
theorem R_cellsOf (b : Nat) (hb : b = 1 ∨ b = 9) (s : Int) : mR3 (d + 1) 15 [vr b, vi s] (S0, M) (some (vi (cO (M (b + 1)) s 36)), (S0, M)) := by
  refine ⟨⟨by decide, Nat.le_of_ble_eq_true rfl⟩, fun K hK => q_C_cellsOf_0 hK b s M hb ?_⟩
  have loop : ∀ (j k : Nat), k + j = 36 → K 4 [(0, vr b), (1, vi s), (2, vi (cO (M (b + 1)) s k)), (3, vi (k : Int))] [] (S0, M) := by
    intro j
    induction j with
    | zero =>
      intro k hk
      refine q_C_cellsOf_4 hK b _ _ _ M hb ⟨fun _ => mret_i (by rw [show k = 36 by omega]) rfl, fun h => absurd (show 36 ≤ (k : Int) by omega) h⟩
    | succ j ih =>
      intro k hk
      have h1 := ih (k + 1) (by omega)
      have e4 : w32 ((k : Int) + 1) = ((k + 1 : Nat) : Int) := by rw [w32_s (by omega) (by omega)]; omega
      have r0 := cO_rng (M (b + 1)) s k
      have e5 : cO (M (b + 1)) s (k + 1) = cO (M (b + 1)) s k + b2 (M (b + 1) (k : Nat) = s) := rfl
      refine q_C_cellsOf_4 hK b _ _ _ M hb ⟨fun h => absurd h (by omega), fun _ => mIn_i (by omega) (by omega) ⟨fun h => ?_, fun h => ?_⟩⟩
      · rw [e5, b2_f h, Int.add_zero] at h1
        rw [e4]
        exact h1
      · rw [e5, b2_t (by omega)] at h1
        rw [e4, w32_s (z := cO (M (b + 1)) s k + 1) (by omega) (by omega)]
        exact h1
  exact loop 36 0 (by omega)
theorem R_canRun (b : Nat) (hb : b = 1 ∨ b = 9) (t : Int) (ht : 0 ≤ t ∧ t < 36) : mR3 (d + 1) 16 [vr b, vi t] (S0, M) (some (vi (b2 (M (b + 1) t = 1 ∧ t < 30 ∧ M (b + 1) (t + 6) = 0))), (S0, M)) := by
  refine ⟨⟨by decide, Nat.le_of_ble_eq_true rfl⟩, fun K hK => q_C_canRun_0 hK b t M hb ?_⟩
  have d1 : jdiv t 6 = t / 6 := jdiv_nn ht.1 (by omega) (by omega)
  have e1 : w32 (t + 6) = t + 6 := w32_s (by omega) (by omega)
  rw [d1, e1]
  refine mIn_i ht.1 (by omega) ⟨fun h => ?_, fun h => ⟨fun h2 => ?_, fun h2 => mIn_i (by omega) (by omega) ⟨fun h3 => ?_, fun h3 => ?_⟩⟩⟩
  · exact mret_i (b2_f (by omega)).symm rfl
  · exact mret_i (b2_f (by omega)).symm rfl
  · exact mret_i (b2_f (by omega)).symm rfl
  · exact mret_i (b2_t (by omega)).symm rfl
theorem R_runningCells (b : Nat) (hb : b = 1 ∨ b = 9) (hT : Tal M b) : mR3 (d + 1) 17 [vr b] (S0, M) (some (vi (cB (M (b + 1)) 1 0)), (S0, M)) := by
  refine ⟨⟨by decide, Nat.le_of_ble_eq_true rfl⟩, fun K hK => q_C_runningCells_0 hK b M hb (mret_i ?_ rfl)⟩
  exact hT.2.1 1 0 (by omega) (by omega)
end
end
section
/-! PURE PROOFS 8: charters copied and changed -/
theorem mcpy_ne (m : mMem) (s : Nat) (sp : Int) {k d : Nat} (dp n : Int) (h : k ≠ d) : mcpy m s sp d dp n k = m k := by
  funext i
  unfold mcpy
  rw [if_neg (fun q => h q.1)]
theorem mcpy_at (m : mMem) (s d : Nat) {n i : Int} (h0 : 0 ≤ i) (h1 : i < n) : mcpy m s 0 d 0 n d i = m s i := by
  unfold mcpy
  rw [if_pos ⟨rfl, h0, by omega⟩]
  congr 1
  omega
def cpy7 (M : mMem) (b c : Nat) : mMem := mcpy (mcpy (mcpy (mcpy (mcpy (mcpy (mcpy M (c + 1) 0 (b + 1) 0 36) (c + 6) 0 (b + 6) 0 25) (c + 7) 0 (b + 7) 0 25) (c + 2) 0 (b + 2) 0 4) (c + 3) 0 (b + 3) 0 20) (c + 4) 0 (b + 4) 0 8) (c + 5) 0 (b + 5) 0 8
def cpyM (M : mMem) (b c : Nat) : mMem := mupd (mupd (cpy7 M b c) b 5 (cpy7 M b c c 5)) b 6 (mupd (cpy7 M b c) b 5 (cpy7 M b c c 5) c 6)
def cpP (b c : Nat) : Prop := (b = 1 ∧ c = 9) ∨ (b = 9 ∧ c = 1) ∨ (b = 18 ∧ c = 1) ∨ (b = 27 ∧ c = 1) ∨ (b = 1 ∧ c = 18) ∨ (b = 1 ∧ c = 27)
theorem R_copyFrom (d : Nat) (M : mMem) (b c : Nat) (h : cpP b c) : mR3 (d + 1) 2 [vr b, vr c] (S0, M) (none, (S0, cpyM M b c)) := by
  refine ⟨⟨by decide, Nat.le_of_ble_eq_true rfl⟩, fun K hK => q_C_copyFrom_0 hK b c M h ?_⟩
  exact ⟨by decide, by decide, by decide, by decide, by decide, by decide, by decide, mret_n rfl⟩
theorem cpy7_ne (M : mMem) {b c k : Nat} (h : k ≤ b ∨ b + 8 ≤ k) : cpy7 M b c k = M k := by
  unfold cpy7
  rw [mcpy_ne _ _ _ _ _ (by omega), mcpy_ne _ _ _ _ _ (by omega), mcpy_ne _ _ _ _ _ (by omega), mcpy_ne _ _ _ _ _ (by omega), mcpy_ne _ _ _ _ _ (by omega), mcpy_ne _ _ _ _ _ (by omega), mcpy_ne _ _ _ _ _ (by omega)]
theorem cpy_ne (M : mMem) {b c k : Nat} (h : k < b ∨ b + 8 ≤ k) : cpyM M b c k = M k := by
  unfold cpyM
  rw [mupd_ne _ _ _ (by omega), mupd_ne _ _ _ (by omega), cpy7_ne M (by omega)]
theorem cpy_r (M : mMem) {b c k : Nat} (h : k ≠ b) : cpyM M b c k = cpy7 M b c k := by
  unfold cpyM
  rw [mupd_ne _ _ _ h, mupd_ne _ _ _ h]
theorem cpy_5 (M : mMem) {b c : Nat} (h : b + 8 ≤ c ∨ c + 8 ≤ b) : cpyM M b c b 5 = M c 5 := by
  unfold cpyM
  rw [mupd_at, mupd_at]
  unfold fup
  rw [if_neg (by decide), if_pos rfl, cpy7_ne M (by omega)]
theorem cpy_6 (M : mMem) {b c : Nat} (h : b + 8 ≤ c ∨ c + 8 ≤ b) : cpyM M b c b 6 = M c 6 := by
  unfold cpyM
  rw [mupd_at]
  unfold fup
  rw [if_pos rfl, mupd_ne _ _ _ (by omega), cpy7_ne M (by omega)]
theorem cpy_f (M : mMem) {b c : Nat} {i : Int} (h5 : i ≠ 5) (h6 : i ≠ 6) : cpyM M b c b i = M b i := by
  unfold cpyM
  rw [mupd_at, mupd_at]
  unfold fup
  rw [if_neg h6, if_neg h5, cpy7_ne M (by omega)]
theorem cpy_1 (M : mMem) {b c : Nat} (h : b + 8 ≤ c ∨ c + 8 ≤ b) {i : Int} (h0 : 0 ≤ i) (h1 : i < 36) : cpyM M b c (b + 1) i = M (c + 1) i := by
  rw [cpy_r M (by omega)]
  unfold cpy7
  rw [mcpy_ne _ _ _ _ _ (by omega), mcpy_ne _ _ _ _ _ (by omega), mcpy_ne _ _ _ _ _ (by omega), mcpy_ne _ _ _ _ _ (by omega), mcpy_ne _ _ _ _ _ (by omega), mcpy_ne _ _ _ _ _ (by omega), mcpy_at _ _ _ h0 h1]
theorem cpy_6r (M : mMem) {b c : Nat} (h : b + 8 ≤ c ∨ c + 8 ≤ b) {i : Int} (h0 : 0 ≤ i) (h1 : i < 25) : cpyM M b c (b + 6) i = M (c + 6) i := by
  rw [cpy_r M (by omega)]
  unfold cpy7
  rw [mcpy_ne _ _ _ _ _ (by omega), mcpy_ne _ _ _ _ _ (by omega), mcpy_ne _ _ _ _ _ (by omega), mcpy_ne _ _ _ _ _ (by omega), mcpy_ne _ _ _ _ _ (by omega), mcpy_at _ _ _ h0 h1, mcpy_ne _ _ _ _ _ (by omega)]
theorem cpy_7r (M : mMem) {b c : Nat} (h : b + 8 ≤ c ∨ c + 8 ≤ b) {i : Int} (h0 : 0 ≤ i) (h1 : i < 25) : cpyM M b c (b + 7) i = M (c + 7) i := by
  rw [cpy_r M (by omega)]
  unfold cpy7
  rw [mcpy_ne _ _ _ _ _ (by omega), mcpy_ne _ _ _ _ _ (by omega), mcpy_ne _ _ _ _ _ (by omega), mcpy_ne _ _ _ _ _ (by omega), mcpy_at _ _ _ h0 h1, mcpy_ne _ _ _ _ _ (by omega), mcpy_ne _ _ _ _ _ (by omega)]
theorem cpy_2 (M : mMem) {b c : Nat} (h : b + 8 ≤ c ∨ c + 8 ≤ b) {i : Int} (h0 : 0 ≤ i) (h1 : i < 4) : cpyM M b c (b + 2) i = M (c + 2) i := by
  rw [cpy_r M (by omega)]
  unfold cpy7
  rw [mcpy_ne _ _ _ _ _ (by omega), mcpy_ne _ _ _ _ _ (by omega), mcpy_ne _ _ _ _ _ (by omega), mcpy_at _ _ _ h0 h1, mcpy_ne _ _ _ _ _ (by omega), mcpy_ne _ _ _ _ _ (by omega), mcpy_ne _ _ _ _ _ (by omega)]
theorem cpy_3 (M : mMem) {b c : Nat} (h : b + 8 ≤ c ∨ c + 8 ≤ b) {i : Int} (h0 : 0 ≤ i) (h1 : i < 20) : cpyM M b c (b + 3) i = M (c + 3) i := by
  rw [cpy_r M (by omega)]
  unfold cpy7
  rw [mcpy_ne _ _ _ _ _ (by omega), mcpy_ne _ _ _ _ _ (by omega), mcpy_at _ _ _ h0 h1, mcpy_ne _ _ _ _ _ (by omega), mcpy_ne _ _ _ _ _ (by omega), mcpy_ne _ _ _ _ _ (by omega), mcpy_ne _ _ _ _ _ (by omega)]
theorem cpy_4 (M : mMem) {b c : Nat} (h : b + 8 ≤ c ∨ c + 8 ≤ b) {i : Int} (h0 : 0 ≤ i) (h1 : i < 8) : cpyM M b c (b + 4) i = M (c + 4) i := by
  rw [cpy_r M (by omega)]
  unfold cpy7
  rw [mcpy_ne _ _ _ _ _ (by omega), mcpy_at _ _ _ h0 h1, mcpy_ne _ _ _ _ _ (by omega), mcpy_ne _ _ _ _ _ (by omega), mcpy_ne _ _ _ _ _ (by omega), mcpy_ne _ _ _ _ _ (by omega), mcpy_ne _ _ _ _ _ (by omega)]
theorem cpy_5r (M : mMem) {b c : Nat} (h : b + 8 ≤ c ∨ c + 8 ≤ b) {i : Int} (h0 : 0 ≤ i) (h1 : i < 8) : cpyM M b c (b + 5) i = M (c + 5) i := by
  rw [cpy_r M (by omega)]
  unfold cpy7
  rw [mcpy_at _ _ _ h0 h1, mcpy_ne _ _ _ _ _ (by omega), mcpy_ne _ _ _ _ _ (by omega), mcpy_ne _ _ _ _ _ (by omega), mcpy_ne _ _ _ _ _ (by omega), mcpy_ne _ _ _ _ _ (by omega), mcpy_ne _ _ _ _ _ (by omega)]
theorem cpP_d {b c : Nat} (h : cpP b c) : b + 8 ≤ c ∨ c + 8 ≤ b := by
  unfold cpP at h
  omega
def planOK (P Q : Int → Int) (n : Int) : Prop := ∀ i, 0 ≤ i → i < n → (0 ≤ P i ∧ P i < 36) ∧ 1 ≤ Q i ∧ Q i ≤ 3
def spOK (s : Int → Int) : Prop := ∀ c, 1 ≤ c → c ≤ 3 → 0 ≤ s c ∧ s c ≤ 99
/-- the charter at b is sound -/
def Cht (M : mMem) (b : Nat) : Prop := Tal M b ∧ (0 ≤ M b 5 ∧ M b 5 ≤ 5) ∧ lawOK (M (b + 3)) (M b 5) ∧ (0 ≤ M b 6 ∧ M b 6 ≤ 8) ∧ planOK (M (b + 4)) (M (b + 5)) (M b 6) ∧ spOK (M (b + 2))
/-- b has what c has in the memory N -/
def Same (M : mMem) (b : Nat) (N : mMem) (c : Nat) : Prop := (∀ i : Int, 0 ≤ i → i < 36 → M (b + 1) i = N (c + 1) i) ∧ (∀ i : Int, 0 ≤ i → i < 4 → M (b + 2) i = N (c + 2) i) ∧ (∀ i : Int, 0 ≤ i → i < 20 → M (b + 3) i = N (c + 3) i) ∧ (∀ i : Int, 0 ≤ i → i < 8 → M (b + 4) i = N (c + 4) i) ∧ (∀ i : Int, 0 ≤ i → i < 8 → M (b + 5) i = N (c + 5) i) ∧ M b 5 = N c 5 ∧ M b 6 = N c 6
theorem Tal_of {M N : mMem} {b c : Nat} (h : Tal N c) (h1 : ∀ i : Int, 0 ≤ i → i < 36 → M (b + 1) i = N (c + 1) i) (h6 : ∀ i : Int, 0 ≤ i → i < 25 → M (b + 6) i = N (c + 6) i) (h7 : ∀ i : Int, 0 ≤ i → i < 25 → M (b + 7) i = N (c + 7) i) : Tal M b := by
  refine ⟨fun i q0 q1 => ?_, fun a e ha he => ?_, fun a e ha he => ?_⟩
  · rw [h1 i q0 q1]
    exact h.1 i q0 q1
  · rw [h6 _ (by omega) (by omega), h.2.1 a e ha he]
    exact (cB_cong h1 a e).symm
  · rw [h7 _ (by omega) (by omega), h.2.2 a e ha he]
    exact (cA_cong h1 a e).symm
theorem Cht_of {M N : mMem} {b c : Nat} (h : Cht N c) (s : Same M b N c) (h6 : ∀ i : Int, 0 ≤ i → i < 25 → M (b + 6) i = N (c + 6) i) (h7 : ∀ i : Int, 0 ≤ i → i < 25 → M (b + 7) i = N (c + 7) i) : Cht M b := by
  obtain ⟨t, l0, l1, p0, p1, sp⟩ := h
  obtain ⟨s1, s2, s3, s4, s5, f5, f6⟩ := s
  refine ⟨Tal_of t s1 h6 h7, by omega, ?_, by omega, ?_, ?_⟩
  · intro l q0 q1
    have h0 := l1 l q0 (by omega)
    rw [s3 _ (by omega) (by omega), s3 (4 * l + 1) (by omega) (by omega), s3 (4 * l + 2) (by omega) (by omega), s3 (4 * l + 3) (by omega) (by omega)]
    exact h0
  · intro i q0 q1
    have h0 := p1 i q0 (by omega)
    rw [s4 _ q0 (by omega), s5 _ q0 (by omega)]
    exact h0
  · intro c' q0 q1
    rw [s2 _ (by omega) (by omega)]
    exact sp c' q0 q1
theorem cpy_same (M : mMem) {b c : Nat} (h : cpP b c) : Same (cpyM M b c) b M c := by
  have hd := cpP_d h
  exact ⟨fun i h0 h1 => cpy_1 M hd h0 h1, fun i h0 h1 => cpy_2 M hd h0 h1, fun i h0 h1 => cpy_3 M hd h0 h1, fun i h0 h1 => cpy_4 M hd h0 h1, fun i h0 h1 => cpy_5r M hd h0 h1, cpy_5 M hd, cpy_6 M hd⟩
theorem cpy_cht {M : mMem} {b c : Nat} (h : cpP b c) (hc : Cht M c) : Cht (cpyM M b c) b :=
  Cht_of hc (cpy_same M h) (fun _ h0 h1 => cpy_6r M (cpP_d h) h0 h1) (fun _ h0 h1 => cpy_7r M (cpP_d h) h0 h1)
/-- a charter whose memory is as it was -/
theorem Cht_eq {M N : mMem} {b : Nat} (h : Cht N b) (e : ∀ k, b ≤ k → k < b + 8 → M k = N k) : Cht M b := by
  refine Cht_of h ⟨fun i _ _ => by rw [e (b + 1) (by omega) (by omega)], fun i _ _ => by rw [e (b + 2) (by omega) (by omega)], fun i _ _ => by rw [e (b + 3) (by omega) (by omega)], fun i _ _ => by rw [e (b + 4) (by omega) (by omega)], fun i _ _ => by rw [e (b + 5) (by omega) (by omega)], by rw [e b (by omega) (by omega)], by rw [e b (by omega) (by omega)]⟩ (fun i _ _ => by rw [e (b + 6) (by omega) (by omega)]) (fun i _ _ => by rw [e (b + 7) (by omega) (by omega)])
theorem put_cht {M : mMem} {b : Nat} {t v : Int} (h : Cht M b) (ht : 0 ≤ t ∧ t < 36) (hv : 0 ≤ v ∧ v ≤ 4) : Cht (putM M b t v) b := by
  obtain ⟨t0, l0, l1, p0, p1, sp⟩ := h
  have e0 := put_ne M b t v (k := b) (by omega) (by omega) (by omega)
  have e2 := put_ne M b t v (k := b + 2) (by omega) (by omega) (by omega)
  have e3 := put_ne M b t v (k := b + 3) (by omega) (by omega) (by omega)
  have e4 := put_ne M b t v (k := b + 4) (by omega) (by omega) (by omega)
  have e5 := put_ne M b t v (k := b + 5) (by omega) (by omega) (by omega)
  unfold Cht
  rw [e0, e2, e3, e4, e5]
  exact ⟨put_tal t0 ht hv, l0, l1, p0, p1, sp⟩
end
section
/-! PURE PROOFS 9: charters changed -/
def swp (p q v : Int) : Int := if v = p then q else if v = q then p else v
theorem swp_rng {p q v : Int} (hp : 0 ≤ p ∧ p ≤ 4) (hq : 0 ≤ q ∧ q ≤ 4) (hv : 0 ≤ v ∧ v ≤ 4) : 0 ≤ swp p q v ∧ swp p q v ≤ 4 := by
  unfold swp
  split
  · exact hq
  · split
    · exact hp
    · exact hv
def exM (M : mMem) (b : Nat) (p q : Int) : Nat → mMem
  | 0 => M
  | n + 1 => putM (exM M b p q n) b n (swp p q (exM M b p q n (b + 1) n))
theorem exM_cht {M : mMem} {b : Nat} {p q : Int} (h : Cht M b) (hp : 0 ≤ p ∧ p ≤ 4) (hq : 0 ≤ q ∧ q ≤ 4) : ∀ n : Nat, n ≤ 36 → Cht (exM M b p q n) b
  | 0, _ => h
  | n + 1, hn => by
    have ih := exM_cht h hp hq n (by omega)
    exact put_cht ih (by omega) (swp_rng hp hq (ih.1.1 n (by omega) (by omega)))
theorem exM_ne (M : mMem) (b : Nat) (p q : Int) {k : Nat} (h1 : k ≠ b + 1) (h6 : k ≠ b + 6) (h7 : k ≠ b + 7) : ∀ n : Nat, exM M b p q n k = M k
  | 0 => rfl
  | n + 1 => by
    show putM (exM M b p q n) b n _ k = M k
    rw [put_ne _ _ _ _ h1 h6 h7, exM_ne M b p q h1 h6 h7 n]
theorem exM_cel (M : mMem) (b : Nat) (p q : Int) : ∀ (n : Nat) (i : Int), exM M b p q n (b + 1) i = if 0 ≤ i ∧ i < n then swp p q (M (b + 1) i) else M (b + 1) i
  | 0, i => by
    rw [if_neg (by omega)]
    rfl
  | n + 1, i => by
    show putM (exM M b p q n) b n _ (b + 1) i = _
    rw [put_cel]
    unfold fup
    have e := exM_cel M b p q n
    by_cases h : i = n
    · rw [if_pos h, e, if_neg (by omega), if_pos (by omega), h]
    · rw [if_neg h, e]
      by_cases h2 : 0 ≤ i ∧ i < n
      · rw [if_pos h2, if_pos (by omega)]
      · rw [if_neg h2, if_neg (by omega)]
theorem R_exchange (d : Nat) (M : mMem) (b : Nat) (hb : b = 1 ∨ b = 9) (p q : Int) (hp : 0 ≤ p ∧ p ≤ 4) (hq : 0 ≤ q ∧ q ≤ 4) (h : Cht M b) : mR3 (d + 3) 18 [vr b, vi p, vi q] (S0, M) (none, (S0, exM M b p q 36)) := by
  refine ⟨⟨by decide, Nat.le_of_ble_eq_true rfl⟩, fun K hK => q_C_exchange_0 hK b p q M hb ?_⟩
  have loop : ∀ (j k : Nat), k + j = 36 → K 2 [(0, vr b), (1, vi p), (2, vi q), (3, vi (k : Int))] [] (S0, exM M b p q k) := by
    intro j
    induction j with
    | zero =>
      intro k hk
      refine q_C_exchange_2 hK b _ _ _ _ hb (br_t (by omega) (mret_n ?_))
      rw [show k = 36 by omega]
    | succ j ih =>
      intro k hk
      have h1 := ih (k + 1) (by omega)
      have e4 : w32 ((k : Int) + 1) = ((k + 1 : Nat) : Int) := by rw [w32_s (by omega) (by omega)]; omega
      have hm := exM_cht h hp hq k (by omega)
      have e5 : exM M b p q (k + 1) = putM (exM M b p q k) b k (swp p q (exM M b p q k (b + 1) k)) := rfl
      rw [e5] at h1
      generalize exM M b p q k = m at h1 hm ⊢
      refine q_C_exchange_2 hK b _ _ _ _ hb (br_f (by omega) (mIn_i (by omega) (by omega) ?_))
      rw [e4]
      by_cases c1 : m (b + 1) (k : Int) = p
      · have e6 : swp p q (m (b + 1) (k : Int)) = q := if_pos c1
        rw [e6] at h1
        exact br_f (fun z => z c1) ⟨_, R_put d m b hb k q (by omega) hq hm.1.1, h1⟩
      · refine br_t c1 (mIn_i (by omega) (by omega) ?_)
        by_cases c2 : m (b + 1) (k : Int) = q
        · have e6 : swp p q (m (b + 1) (k : Int)) = p := by unfold swp; rw [if_neg c1, if_pos c2]
          rw [e6] at h1
          exact br_f (fun z => z c2) ⟨_, R_put d m b hb k p (by omega) hp hm.1.1, h1⟩
        · have e6 : swp p q (m (b + 1) (k : Int)) = m (b + 1) (k : Int) := by unfold swp; rw [if_neg c1, if_neg c2]
          have e7 : putM m b k (m (b + 1) (k : Int)) = m := if_pos rfl
          rw [e6, e7] at h1
          exact br_t c2 h1
  exact loop 36 0 (by omega)
def trM (M : mMem) (b : Nat) (y : Int) : Nat → mMem
  | 0 => M
  | n + 1 => putM (putM (trM M b y n) b (6 * n + y) (trM M b y n (b + 1) (6 * (5 - n) + y))) b (6 * (5 - n) + y) (trM M b y n (b + 1) (6 * n + y))
theorem trM_cht {M : mMem} {b : Nat} {y : Int} (h : Cht M b) (hy : 0 ≤ y ∧ y < 6) : ∀ n : Nat, n ≤ 3 → Cht (trM M b y n) b
  | 0, _ => h
  | n + 1, hn => by
    have ih := trM_cht h hy n (by omega)
    exact put_cht (put_cht ih (by omega) (ih.1.1 _ (by omega) (by omega))) (by omega) (ih.1.1 _ (by omega) (by omega))
theorem trM_ne (M : mMem) (b : Nat) (y : Int) {k : Nat} (h1 : k ≠ b + 1) (h6 : k ≠ b + 6) (h7 : k ≠ b + 7) : ∀ n : Nat, trM M b y n k = M k
  | 0 => rfl
  | n + 1 => by
    show putM (putM (trM M b y n) b _ _) b _ _ k = M k
    rw [put_ne _ _ _ _ h1 h6 h7, put_ne _ _ _ _ h1 h6 h7, trM_ne M b y h1 h6 h7 n]
theorem trM_cel (M : mMem) (b : Nat) {y : Int} (hy : 0 ≤ y ∧ y < 6) : ∀ (n : Nat), n ≤ 3 → ∀ i : Int, 0 ≤ i → i < 36 → trM M b y n (b + 1) i = if i % 6 = y ∧ (i / 6 < n ∨ 5 - n < i / 6) then M (b + 1) (30 + 2 * y - i) else M (b + 1) i
  | 0, _, i, h0, h1 => by
    rw [if_neg (by omega)]
    rfl
  | n + 1, hn, i, h0, h1 => by
    show putM (putM (trM M b y n) b _ _) b _ _ (b + 1) i = _
    have e := trM_cel M b hy n (by omega)
    rw [put_cel, put_cel]
    unfold fup
    by_cases c1 : i = 6 * (5 - (n : Int)) + y
    · rw [if_pos c1, e _ (by omega) (by omega), if_neg (by omega), if_pos (by omega)]
      congr 1
      omega
    · rw [if_neg c1]
      by_cases c2 : i = 6 * (n : Int) + y
      · rw [if_pos c2, e _ (by omega) (by omega), if_neg (by omega), if_pos (by omega)]
        congr 1
        omega
      · rw [if_neg c2, e i h0 h1]
        by_cases c3 : i % 6 = y ∧ (i / 6 < n ∨ 5 - n < i / 6)
        · rw [if_pos c3, if_pos (by omega)]
        · rw [if_neg c3, if_neg (by omega)]
theorem R_turnRow (d : Nat) (M : mMem) (b : Nat) (hb : b = 1 ∨ b = 9) (y : Int) (hy : 0 ≤ y ∧ y < 6) (h : Cht M b) : mR3 (d + 3) 19 [vr b, vi y] (S0, M) (none, (S0, trM M b y 3)) := by
  refine ⟨⟨by decide, Nat.le_of_ble_eq_true rfl⟩, fun K hK => q_C_turnRow_0 hK b y M hb ?_⟩
  have loop : ∀ (j k : Nat), k + j = 3 → K 2 [(0, vr b), (1, vi y), (2, vi (k : Int))] [] (S0, trM M b y k) := by
    intro j
    induction j with
    | zero =>
      intro k hk
      refine q_C_turnRow_2 hK b _ _ _ hb (br_t (by omega) (mret_n ?_))
      rw [show k = 3 by omega]
    | succ j ih =>
      intro k hk
      have h1 := ih (k + 1) (by omega)
      have e4 : w32 ((k : Int) + 1) = ((k + 1 : Nat) : Int) := by rw [w32_s (by omega) (by omega)]; omega
      have hm := trM_cht h hy k (by omega)
      have e5 : trM M b y (k + 1) = putM (putM (trM M b y k) b (6 * k + y) (trM M b y k (b + 1) (6 * (5 - k) + y))) b (6 * (5 - k) + y) (trM M b y k (b + 1) (6 * k + y)) := rfl
      rw [e5] at h1
      generalize trM M b y k = m at h1 hm ⊢
      have e6 : w32 (w32 ((k : Int) * 6) + y) = 6 * k + y := by rw [w32_s (z := (k : Int) * 6) (by omega) (by omega), w32_s (by omega) (by omega)]; omega
      have e7 : w32 (w32 (w32 (5 - (k : Int)) * 6) + y) = 6 * (5 - k) + y := by rw [w32_s (z := 5 - (k : Int)) (by omega) (by omega), w32_s (z := (5 - (k : Int)) * 6) (by omega) (by omega), w32_s (by omega) (by omega)]; omega
      refine q_C_turnRow_2 hK b _ _ _ hb (br_f (by omega) ?_)
      rw [e4, e6, e7]
      refine mIn_i (by omega) (by omega) (mIn_i (by omega) (by omega) ⟨_, R_put d m b hb _ _ (by omega) (hm.1.1 _ (by omega) (by omega)) hm.1.1, ⟨_, R_put d _ b hb _ _ (by omega) (hm.1.1 _ (by omega) (by omega)) ?_, h1⟩⟩)
      rw [put_cel]
      exact celOK_up hm.1.1 (hm.1.1 _ (by omega) (by omega))
  exact loop 3 0 (by omega)
def alM (M : mMem) (b : Nat) (kd a c w : Int) : mMem := mupd (mupd (mupd (mupd (mupd M (b + 3) (4 * M b 5) kd) (b + 3) (4 * M b 5 + 1) a) (b + 3) (4 * M b 5 + 2) c) (b + 3) (4 * M b 5 + 3) w) b 5 (M b 5 + 1)
theorem alM_ne (M : mMem) (b : Nat) (kd a c w : Int) {k : Nat} (h : k ≠ b) (h3 : k ≠ b + 3) : alM M b kd a c w k = M k := by
  unfold alM
  rw [mupd_ne _ _ _ h, mupd_ne _ _ _ h3, mupd_ne _ _ _ h3, mupd_ne _ _ _ h3, mupd_ne _ _ _ h3]
theorem alM_0 (M : mMem) (b : Nat) (kd a c w : Int) : alM M b kd a c w b = fup (M b) 5 (M b 5 + 1) := by
  unfold alM
  rw [mupd_at, mupd_ne _ _ _ (by omega), mupd_ne _ _ _ (by omega), mupd_ne _ _ _ (by omega), mupd_ne _ _ _ (by omega)]
theorem alM_3 (M : mMem) (b : Nat) (kd a c w : Int) : alM M b kd a c w (b + 3) = fup (fup (fup (fup (M (b + 3)) (4 * M b 5) kd) (4 * M b 5 + 1) a) (4 * M b 5 + 2) c) (4 * M b 5 + 3) w := by
  unfold alM
  rw [mupd_ne _ _ _ (by omega), mupd_at, mupd_at, mupd_at, mupd_at]
theorem fup_ne (f : Int → Int) {t i : Int} (v : Int) (h : i ≠ t) : fup f t v i = f i := if_neg h
theorem fup_at (f : Int → Int) (t v : Int) : fup f t v t = v := if_pos rfl
theorem R_addLaw (d : Nat) (M : mMem) (b : Nat) (hb : b = 1 ∨ b = 9) (kd a c w : Int) (h : 0 ≤ M b 5 ∧ M b 5 < 5) : mR3 (d + 1) 9 [vr b, vi kd, vi a, vi c, vi w] (S0, M) (none, (S0, alM M b kd a c w)) := by
  refine ⟨⟨by decide, Nat.le_of_ble_eq_true rfl⟩, fun K hK => q_C_addLaw_0 hK b kd a c w M hb ?_⟩
  have e0 : w32 (M b 5 * 4) = 4 * M b 5 := by rw [w32_s (by omega) (by omega)]; omega
  have e1 : w32 (4 * M b 5 + 1) = 4 * M b 5 + 1 := w32_s (by omega) (by omega)
  have e2 : w32 (4 * M b 5 + 2) = 4 * M b 5 + 2 := w32_s (by omega) (by omega)
  have e3 : w32 (4 * M b 5 + 3) = 4 * M b 5 + 3 := w32_s (by omega) (by omega)
  rw [e0, e1, e2, e3]
  refine mIn_i (by omega) (by omega) (mIn_i (by omega) (by omega) (mIn_i (by omega) (by omega) (mIn_i (by omega) (by omega) (mret_n ?_))))
  rw [mupd_ne _ _ _ (show b ≠ b + 3 by omega), mupd_ne _ _ _ (show b ≠ b + 3 by omega), mupd_ne _ _ _ (show b ≠ b + 3 by omega), mupd_ne _ _ _ (show b ≠ b + 3 by omega), w32_s (z := M b 5 + 1) (by omega) (by omega)]
  rfl
theorem alM_cht {M : mMem} {b : Nat} {kd a c w : Int} (h : Cht M b) (h5 : M b 5 < 5) (hk : 0 ≤ kd ∧ kd ≤ 3) (ha : 1 ≤ a ∧ a ≤ 3) (hc : 1 ≤ c ∧ c ≤ 3) (hw : 1 ≤ w ∧ w ≤ 9) : Cht (alM M b kd a c w) b := by
  obtain ⟨t0, l0, l1, p0, p1, sp⟩ := h
  unfold Cht
  rw [alM_ne M b kd a c w (k := b + 2) (by omega) (by omega), alM_ne M b kd a c w (k := b + 4) (by omega) (by omega), alM_ne M b kd a c w (k := b + 5) (by omega) (by omega), alM_0, alM_3, fup_at, fup_ne _ _ (show (6 : Int) ≠ 5 by decide)]
  refine ⟨?_, by omega, ?_, p0, p1, sp⟩
  · refine Tal_of t0 (fun i _ _ => ?_) (fun i _ _ => ?_) (fun i _ _ => ?_)
    · rw [alM_ne M b kd a c w (by omega) (by omega)]
    · rw [alM_ne M b kd a c w (by omega) (by omega)]
    · rw [alM_ne M b kd a c w (by omega) (by omega)]
  · intro l q0 q1
    generalize M b 5 = n at *
    by_cases e : l = n
    · rw [e, fup_at, fup_ne _ _ (show 4 * n + 2 ≠ 4 * n + 3 by omega), fup_at, fup_ne _ _ (show 4 * n + 1 ≠ 4 * n + 3 by omega), fup_ne _ _ (show 4 * n + 1 ≠ 4 * n + 2 by omega), fup_at, fup_ne _ _ (show 4 * n ≠ 4 * n + 3 by omega), fup_ne _ _ (show 4 * n ≠ 4 * n + 2 by omega), fup_ne _ _ (show 4 * n ≠ 4 * n + 1 by omega), fup_at]
      exact ⟨hk, ha, hc, hw⟩
    · have g : ∀ x : Int, 0 ≤ x → x ≤ 3 → fup (fup (fup (fup (M (b + 3)) (4 * n) kd) (4 * n + 1) a) (4 * n + 2) c) (4 * n + 3) w (4 * l + x) = M (b + 3) (4 * l + x) := by
        intro x x0 x1
        rw [fup_ne _ _ (by omega), fup_ne _ _ (by omega), fup_ne _ _ (by omega), fup_ne _ _ (by omega)]
      have g0 := g 0 (by omega) (by omega)
      rw [Int.add_zero] at g0
      rw [g0, g 1 (by omega) (by omega), g 2 (by omega) (by omega), g 3 (by omega) (by omega)]
      exact l1 l q0 (by omega)
def takeM (M : mMem) (b : Nat) (t c : Int) : mMem := mupd (putM M b t c) (b + 2) c (w32 (M (b + 2) c - 1))
theorem takeM_ne (M : mMem) (b : Nat) (t c : Int) {k : Nat} (h1 : k ≠ b + 1) (h2 : k ≠ b + 2) (h6 : k ≠ b + 6) (h7 : k ≠ b + 7) : takeM M b t c k = M k := by
  unfold takeM
  rw [mupd_ne _ _ _ h2, put_ne _ _ _ _ h1 h6 h7]
theorem takeM_1 (M : mMem) (b : Nat) (t c : Int) : takeM M b t c (b + 1) = fup (M (b + 1)) t c := by
  unfold takeM
  rw [mupd_ne _ _ _ (by omega), put_cel]
theorem takeM_2 (M : mMem) (b : Nat) (t c : Int) : takeM M b t c (b + 2) = fup (M (b + 2)) c (w32 (M (b + 2) c - 1)) := by
  unfold takeM
  rw [mupd_at, put_ne _ _ _ _ (by omega) (by omega) (by omega)]
theorem takeM_cht {M : mMem} {b : Nat} {t c : Int} (h : Cht M b) (ht : 0 ≤ t ∧ t < 36) (hc : 1 ≤ c ∧ c ≤ 3) (hs : 0 < M (b + 2) c) : Cht (takeM M b t c) b := by
  have h' := put_cht h ht (show 0 ≤ c ∧ c ≤ 4 by omega)
  have sp := h.2.2.2.2.2
  obtain ⟨t0, l0, l1, p0, p1, _⟩ := h'
  have e2 : takeM M b t c (b + 2) = fup (M (b + 2)) c (w32 (M (b + 2) c - 1)) := takeM_2 M b t c
  have e : ∀ k, k ≠ b + 2 → takeM M b t c k = putM M b t c k := fun k hk => mupd_ne _ _ _ hk
  unfold Cht
  rw [e2, e b (by omega), e (b + 3) (by omega), e (b + 4) (by omega), e (b + 5) (by omega)]
  refine ⟨Tal_of t0 (fun i _ _ => by rw [e _ (by omega)]) (fun i _ _ => by rw [e _ (by omega)]) (fun i _ _ => by rw [e _ (by omega)]), l0, l1, p0, p1, fun c' q0 q1 => ?_⟩
  have h1 := sp c hc.1 hc.2
  unfold fup
  split
  · rw [w32_s (by omega) (by omega)]
    omega
  · exact sp c' q0 q1
def tpM (M : mMem) (b : Nat) (i : Int) : mMem := if M (b + 1) (M (b + 4) i) = 0 ∧ 0 < M (b + 2) (M (b + 5) i) then mupd (takeM M b (M (b + 4) i) (M (b + 5) i)) b 7 (w32 (M b 7 + 1)) else if M b 8 = -4 then mupd M b 8 i else M
theorem R_takePlanned (d : Nat) (M : mMem) (b : Nat) (hb : b = 1 ∨ b = 9) (i : Int) (h : Cht M b) (hi : 0 ≤ i ∧ i < M b 6) : mR3 (d + 4) 8 [vr b, vi i] (S0, M) (none, (S0, tpM M b i)) := by
  obtain ⟨t0, l0, l1, p0, p1, sp⟩ := h
  obtain ⟨q0, q1⟩ := p1 i hi.1 hi.2
  refine ⟨⟨by decide, Nat.le_of_ble_eq_true rfl⟩, fun K hK => q_C_takePlanned_0 hK b i M hb (mIn_i (by omega) (by omega) (mIn_i (by omega) (by omega) ⟨_, _, R_canTake (d + 2) M b hb _ _ q0 q1, ?_⟩))⟩
  by_cases c : M (b + 1) (M (b + 4) i) = 0 ∧ 0 < M (b + 2) (M (b + 5) i)
  · refine br_f (fun z => b2_0.mp z c) (mIn_i (by omega) (by omega) (mIn_i (by omega) (by omega) ⟨_, R_take d M b hb _ _ q0 q1 t0.1, mret_n ?_⟩))
    have e1 : tpM M b i = _ := if_pos c
    have e2 := takeM_ne M b (M (b + 4) i) (M (b + 5) i) (k := b) (by omega) (by omega) (by omega) (by omega)
    rw [e1, ← e2]
    rfl
  · refine br_t (b2_f c) ?_
    have e1 : tpM M b i = _ := if_neg c
    by_cases c2 : M b 8 = -4
    · refine br_f (fun z => z c2) (mret_n ?_)
      rw [e1, if_pos c2]
    · refine br_t c2 (mret_n ?_)
      rw [e1, if_neg c2]
end
section
/-! PURE PROOFS 10: the other's pages -/
def pg (M : mMem) (p : Int) : Int → Int := fun i => M 54 (p + i)
def pgL (M : mMem) (p : Int) : Int → Int := fun j => M 54 (p + 40 + 5 * (j % 4) + j / 4)
theorem pgL_at (M : mMem) (p l x : Int) (h0 : 0 ≤ x) (h1 : x < 4) : pgL M p (4 * l + x) = M 54 (p + 40 + 5 * x + l) := by
  show M 54 (p + 40 + 5 * ((4 * l + x) % 4) + (4 * l + x) / 4) = _
  congr 1
  omega
theorem pgL_0 (M : mMem) (p l : Int) : pgL M p (4 * l) = M 54 (p + 40 + l) := by
  show M 54 (p + 40 + 5 * ((4 * l) % 4) + (4 * l) / 4) = _
  congr 1
  omega
theorem sm_rng {g : Nat → Int} (h : ∀ k, 0 ≤ g k ∧ g k ≤ 1) : ∀ n : Nat, 0 ≤ sm g n ∧ sm g n ≤ n
  | 0 => by
    have h : sm g 0 = 0 := rfl
    omega
  | n + 1 => by
    have h1 := sm_rng h n
    have h2 := h n
    have h4 : sm g (n + 1) = sm g n + g n := rfl
    omega
section
variable (d : Nat) (M : mMem)
theorem R_mIsColour (c : Int) : mR3 (d + 2) 130 [vi c] (S0, M) (some (vi (b2 (1 ≤ c ∧ c ≤ 3))), (S0, M)) := by
  refine ⟨⟨by decide, Nat.le_of_ble_eq_true rfl⟩, fun K hK => q_M_isColour_0 hK c M ⟨_, _, R_in d M _ _ _, mBo_i (b2_01 _) (mret_i (b2_iff ?_) rfl)⟩⟩
  omega
theorem R_mIsLaw (l : Int) (h : 0 ≤ M 54 39 ∧ M 54 39 ≤ 5) : mR3 (d + 2) 128 [vr 53, vi l] (S0, M) (some (vi (b2 (0 ≤ l ∧ l < M 54 39))), (S0, M)) := by
  refine ⟨⟨by decide, Nat.le_of_ble_eq_true rfl⟩, fun K hK => q_M_isLaw_0 hK l M ⟨_, _, R_in d M _ _ _, mBo_i (b2_01 _) (mret_i (b2_iff ?_) rfl)⟩⟩
  rw [w32_s (by omega) (by omega)]
  omega
theorem R_mIsCell (x y : Int) : mR3 (d + 2) 129 [vi x, vi y] (S0, M) (some (vi (b2 (0 ≤ x ∧ x < 6 ∧ 0 ≤ y ∧ y < 6))), (S0, M)) := by
  refine ⟨⟨by decide, Nat.le_of_ble_eq_true rfl⟩, fun K hK => q_M_isCell_0 hK x y M ⟨_, _, R_in d M _ _ _, ⟨fun h => ?_, fun h => ⟨_, _, R_in d M _ _ _, ⟨fun h2 => ?_, fun h2 => ?_⟩⟩⟩⟩⟩
  · have h := b2_0.mp h
    exact mret_i (b2_f (by omega)).symm rfl
  · have h := b2_n0.mp h
    have h2 := b2_0.mp h2
    exact mret_i (b2_f (by omega)).symm rfl
  · have h := b2_n0.mp h
    have h2 := b2_n0.mp h2
    exact mret_i (b2_t (by omega)).symm rfl
theorem R_besideOn (p a c : Int) (hp : 0 ≤ p ∧ p ≤ 425) : mR3 (d + 1) 131 [vr 53, vi p, vi a, vi c] (S0, M) (some (vi (cB (pg M p) a c)), (S0, M)) := by
  refine ⟨⟨by decide, Nat.le_of_ble_eq_true rfl⟩, fun K hK => q_M_besideOn_0 hK p a c M ?_⟩
  have loop : ∀ (j k : Nat), k + j = 30 → K 6 [(0, vr 53), (1, vi p), (2, vi a), (3, vi c), (4, vi (sm (fun k => b2 (pg M p (k : Nat) = a ∧ pg M p ((k : Nat) + 6) = c)) k)), (5, vi (k : Int))] [] (S0, M) := by
    intro j
    induction j with
    | zero =>
      intro k hk
      refine q_M_besideOn_6 hK p a c _ _ M (br_t (by omega) (mret_i ?_ rfl))
      rw [show k = 30 by omega]
      rfl
    | succ j ih =>
      intro k hk
      have h1 := ih (k + 1) (by omega)
      have e4 : w32 ((k : Int) + 1) = ((k + 1 : Nat) : Int) := by rw [w32_s (by omega) (by omega)]; omega
      have e1 : w32 (p + (k : Int)) = p + (k : Int) := w32_s (by omega) (by omega)
      have e2 : w32 (p + (k : Int) + 6) = p + ((k : Int) + 6) := by rw [w32_s (by omega) (by omega)]; omega
      have r0 := sm_rng (g := fun k : Nat => b2 (pg M p (k : Nat) = a ∧ pg M p ((k : Nat) + 6) = c)) (fun k => b2_le _) k
      have e5 : sm (fun k : Nat => b2 (pg M p (k : Nat) = a ∧ pg M p ((k : Nat) + 6) = c)) (k + 1) = sm (fun k : Nat => b2 (pg M p (k : Nat) = a ∧ pg M p ((k : Nat) + 6) = c)) k + b2 (pg M p (k : Nat) = a ∧ pg M p ((k : Nat) + 6) = c) := rfl
      rw [e5] at h1
      generalize sm (fun k : Nat => b2 (pg M p (k : Nat) = a ∧ pg M p ((k : Nat) + 6) = c)) k = s at h1 r0 ⊢
      refine q_M_besideOn_6 hK p a c _ _ M (br_f (by omega) ?_)
      rw [e4, e1, e2, w32_s (z := s + 0) (by omega) (by omega), w32_s (z := s + 1) (by omega) (by omega)]
      refine mIn_i (by omega) (by omega) ⟨fun q => ?_, fun q => mIn_i (by omega) (by omega) ⟨fun q2 => ?_, fun q2 => ?_⟩⟩
      · rw [b2_f (fun z => q z.1)] at h1
        exact h1
      · rw [b2_f (fun z => q2 z.2)] at h1
        exact h1
      · rw [b2_t ⟨Decidable.not_not.mp q, Decidable.not_not.mp q2⟩] at h1
        exact h1
  exact loop 30 0 (by omega)
theorem R_aboveOn (p a c : Int) (hp : 0 ≤ p ∧ p ≤ 425) : mR3 (d + 1) 132 [vr 53, vi p, vi a, vi c] (S0, M) (some (vi (cA (pg M p) a c)), (S0, M)) := by
  refine ⟨⟨by decide, Nat.le_of_ble_eq_true rfl⟩, fun K hK => q_M_aboveOn_0 hK p a c M ?_⟩
  have loop : ∀ (j k : Nat), k + j = 36 → K 6 [(0, vr 53), (1, vi p), (2, vi a), (3, vi c), (4, vi (sm (fun k => b2 ((k : Int) % 6 < 5 ∧ pg M p (k : Nat) = a ∧ pg M p ((k : Nat) + 1) = c)) k)), (5, vi (k : Int))] [] (S0, M) := by
    intro j
    induction j with
    | zero =>
      intro k hk
      refine q_M_aboveOn_6 hK p a c _ _ M (br_t (by omega) (mret_i ?_ rfl))
      rw [show k = 36 by omega]
      rfl
    | succ j ih =>
      intro k hk
      have h1 := ih (k + 1) (by omega)
      have e4 : w32 ((k : Int) + 1) = ((k + 1 : Nat) : Int) := by rw [w32_s (by omega) (by omega)]; omega
      have e1 : w32 (p + (k : Int)) = p + (k : Int) := w32_s (by omega) (by omega)
      have e2 : w32 (p + (k : Int) + 1) = p + ((k : Int) + 1) := by rw [w32_s (by omega) (by omega)]; omega
      have e3 : jrem (k : Int) 6 = (k : Int) % 6 := jrem_nn (by omega)
      have r0 := sm_rng (g := fun k : Nat => b2 ((k : Int) % 6 < 5 ∧ pg M p (k : Nat) = a ∧ pg M p ((k : Nat) + 1) = c)) (fun k => b2_le _) k
      have e5 : sm (fun k : Nat => b2 ((k : Int) % 6 < 5 ∧ pg M p (k : Nat) = a ∧ pg M p ((k : Nat) + 1) = c)) (k + 1) = sm (fun k : Nat => b2 ((k : Int) % 6 < 5 ∧ pg M p (k : Nat) = a ∧ pg M p ((k : Nat) + 1) = c)) k + b2 ((k : Int) % 6 < 5 ∧ pg M p (k : Nat) = a ∧ pg M p ((k : Nat) + 1) = c) := rfl
      rw [e5] at h1
      generalize sm (fun k : Nat => b2 ((k : Int) % 6 < 5 ∧ pg M p (k : Nat) = a ∧ pg M p ((k : Nat) + 1) = c)) k = s at h1 r0 ⊢
      refine q_M_aboveOn_6 hK p a c _ _ M (br_f (by omega) ?_)
      rw [e4, e1, e2, e3, w32_s (z := s + 0) (by omega) (by omega), w32_s (z := s + 1) (by omega) (by omega)]
      refine ⟨fun q0 => ?_, fun q0 => mIn_i (by omega) (by omega) ⟨fun q => ?_, fun q => mIn_i (by omega) (by omega) ⟨fun q2 => ?_, fun q2 => ?_⟩⟩⟩
      · rw [b2_f (fun z => absurd z.1 (by omega))] at h1
        exact h1
      · rw [b2_f (fun z => q z.2.1)] at h1
        exact h1
      · rw [b2_f (fun z => q2 z.2.2)] at h1
        exact h1
      · rw [b2_t ⟨by omega, Decidable.not_not.mp q, Decidable.not_not.mp q2⟩] at h1
        exact h1
  exact loop 36 0 (by omega)
theorem R_holesOn (p : Int) (hp : 0 ≤ p ∧ p ≤ 425) : mR3 (d + 1) 136 [vr 53, vi p] (S0, M) (some (vi (cO (pg M p) 4 36)), (S0, M)) := by
  refine ⟨⟨by decide, Nat.le_of_ble_eq_true rfl⟩, fun K hK => q_M_holesOn_0 hK p M ?_⟩
  have loop : ∀ (j k : Nat), k + j = 36 → K 4 [(0, vr 53), (1, vi p), (2, vi (cO (pg M p) 4 k)), (3, vi (k : Int))] [] (S0, M) := by
    intro j
    induction j with
    | zero =>
      intro k hk
      refine q_M_holesOn_4 hK p _ _ M (br_t (by omega) (mret_i ?_ rfl))
      rw [show k = 36 by omega]
    | succ j ih =>
      intro k hk
      have h1 := ih (k + 1) (by omega)
      have e4 : w32 ((k : Int) + 1) = ((k + 1 : Nat) : Int) := by rw [w32_s (by omega) (by omega)]; omega
      have e1 : w32 (p + (k : Int)) = p + (k : Int) := w32_s (by omega) (by omega)
      have r0 := cO_rng (pg M p) 4 k
      have e5 : cO (pg M p) 4 (k + 1) = cO (pg M p) 4 k + b2 (pg M p (k : Nat) = 4) := rfl
      rw [e5] at h1
      generalize cO (pg M p) 4 k = s at h1 r0 ⊢
      refine q_M_holesOn_4 hK p _ _ M (br_f (by omega) ?_)
      rw [e4, e1, w32_s (z := s + 0) (by omega) (by omega), w32_s (z := s + 1) (by omega) (by omega)]
      refine mIn_i (by omega) (by omega) ⟨fun q => ?_, fun q => ?_⟩
      · rw [b2_f (c := pg M p (k : Nat) = 4) q] at h1
        exact h1
      · rw [b2_t (c := pg M p (k : Nat) = 4) (Decidable.not_not.mp q)] at h1
        exact h1
  exact loop 36 0 (by omega)
theorem R_copies (s t : Int) (hs : 0 ≤ s ∧ s ≤ 425) (ht : 0 ≤ t ∧ t ≤ 425) (hd : s + 85 ≤ t ∨ t + 85 ≤ s) : mR3 (d + 1) 154 [vr 53, vi s, vi t] (S0, M) (none, (S0, mcpy M 54 s 54 t 85)) := by
  refine ⟨⟨by decide, Nat.le_of_ble_eq_true rfl⟩, fun K hK => q_M_copies_0 hK s t M ?_⟩
  have step : ∀ k : Nat, k < 85 → mupd (mcpy M 54 s 54 t k) 54 (t + k) (mcpy M 54 s 54 t k 54 (s + k)) = mcpy M 54 s 54 t ((k + 1 : Nat) : Int) := by
    intro k hk
    funext k' i
    unfold mupd mcpy
    rw [if_neg (show ¬ ((54 : Nat) = 54 ∧ t ≤ s + (k : Int) ∧ s + (k : Int) < t + k) by omega)]
    by_cases h1 : k' = 54
    · by_cases h2 : i = t + k
      · rw [if_pos ⟨h1, h2⟩, if_pos ⟨h1, by omega, by omega⟩]
        congr 1
        omega
      · rw [if_neg (fun q => h2 q.2)]
        by_cases h3 : t ≤ i ∧ i < t + k
        · rw [if_pos ⟨h1, h3⟩, if_pos ⟨h1, by omega, by omega⟩]
        · rw [if_neg (fun q => h3 q.2), if_neg (fun q => h3 ⟨q.2.1, by omega⟩)]
    · rw [if_neg (fun q => h1 q.1), if_neg (fun q => h1 q.1), if_neg (fun q => h1 q.1)]
  have m0 : mcpy M 54 s 54 t ((0 : Nat) : Int) = M := by
    funext k' i
    unfold mcpy
    rw [if_neg (by omega)]
  have loop : ∀ (j k : Nat), k + j = 85 → K 2 [(0, vr 53), (1, vi s), (2, vi t), (3, vi (k : Int))] [] (S0, mcpy M 54 s 54 t (k : Int)) := by
    intro j
    induction j with
    | zero =>
      intro k hk
      refine q_M_copies_2 hK s t _ _ (br_t (by omega) (mret_n ?_))
      rw [show k = 85 by omega]
      rfl
    | succ j ih =>
      intro k hk
      have h1 := ih (k + 1) (by omega)
      rw [← step k (by omega)] at h1
      have e4 : w32 ((k : Int) + 1) = ((k + 1 : Nat) : Int) := by rw [w32_s (by omega) (by omega)]; omega
      have e1 : w32 (s + (k : Int)) = s + (k : Int) := w32_s (by omega) (by omega)
      have e2 : w32 (t + (k : Int)) = t + (k : Int) := w32_s (by omega) (by omega)
      refine q_M_copies_2 hK s t _ _ (br_f (by omega) ?_)
      rw [e4, e1, e2]
      exact mIn_i (by omega) (by omega) (mIn_i (by omega) (by omega) h1)
  have h1 := loop 85 0 (by omega)
  rw [m0] at h1
  exact h1
end
end
section
/-! PURE PROOFS 11: what the other's pages read -/
theorem rA_ar {kd bk s u v w : Int} (hk : 0 ≤ kd ∧ kd ≤ 3) (hbk : bk = 0 ∨ bk = 1) (hs : s = 0 ↔ ((kd = 1 ∧ bk = 1) ∨ (kd ≠ 1 ∧ bk = 0))) : (if kd = 2 then 0 else if s = 0 then u else v) + (if kd ≤ 1 then 0 else w) = (if bk = 0 then rA kd u v w else rA kd v u w) := by
  unfold rA
  repeat' split
  all_goals omega
theorem R_readsOn (d : Nat) (M : mMem) (p l bk n : Int) (hp : 0 ≤ p ∧ p ≤ 425) (hL : lawOK (pgL M p) n) (hl : 0 ≤ l ∧ l < n) (hn : n ≤ 5) (hbk : bk = 0 ∨ bk = 1) : mR3 (d + 2) 133 [vr 53, vi p, vi l, vi bk] (S0, M) (some (vi (if bk = 0 then rdL (pgL M p) (pg M p) l else rdB (pgL M p) (pg M p) l)), (S0, M)) := by
  refine ⟨⟨by decide, Nat.le_of_ble_eq_true rfl⟩, fun K hK => q_M_readsOn_0 hK p l bk M ?_⟩
  obtain ⟨k0, k1, k2, _⟩ := hL l hl.1 hl.2
  have g0 := pgL_0 M p l
  have g1 := pgL_at M p l 1 (by omega) (by omega)
  have g2 := pgL_at M p l 2 (by omega) (by omega)
  have e0 : w32 (w32 (p + 40) + l) = p + 40 + l := by rw [w32_s (z := p + 40) (by omega) (by omega), w32_s (by omega) (by omega)]
  have e1 : w32 (w32 (p + 45) + l) = p + 40 + 5 * 1 + l := by rw [w32_s (z := p + 45) (by omega) (by omega), w32_s (by omega) (by omega)]; omega
  have e2 : w32 (w32 (p + 50) + l) = p + 40 + 5 * 2 + l := by rw [w32_s (z := p + 50) (by omega) (by omega), w32_s (by omega) (by omega)]; omega
  rw [e0, e1, e2, ← g0, ← g1, ← g2]
  have hR : (if bk = 0 then rdL (pgL M p) (pg M p) l else rdB (pgL M p) (pg M p) l) = if bk = 0 then rA (pgL M p (4 * l)) (cB (pg M p) (pgL M p (4 * l + 1)) (pgL M p (4 * l + 2))) (cB (pg M p) (pgL M p (4 * l + 2)) (pgL M p (4 * l + 1))) (cA (pg M p) (pgL M p (4 * l + 1)) (pgL M p (4 * l + 2))) else rA (pgL M p (4 * l)) (cB (pg M p) (pgL M p (4 * l + 2)) (pgL M p (4 * l + 1))) (cB (pg M p) (pgL M p (4 * l + 1)) (pgL M p (4 * l + 2))) (cA (pg M p) (pgL M p (4 * l + 1)) (pgL M p (4 * l + 2))) := rfl
  rw [hR] at hK
  generalize pgL M p (4 * l) = kd at *
  generalize pgL M p (4 * l + 1) = a at *
  generalize pgL M p (4 * l + 2) = c at *
  have r1 := cB_rng (pg M p) a c
  have r2 := cB_rng (pg M p) c a
  have r3 := cA_rng (pg M p) a c
  have s97 : ∀ s : Int, 0 ≤ s → s ≤ 30 → s + (if kd ≤ 1 then 0 else cA (pg M p) a c) = (if bk = 0 then rA kd (cB (pg M p) a c) (cB (pg M p) c a) (cA (pg M p) a c) else rA kd (cB (pg M p) c a) (cB (pg M p) a c) (cA (pg M p) a c)) → K 97 [(0, vr 53), (1, vi p), (4, vi kd), (5, vi a), (6, vi c)] [vi s] (S0, M) := by
    intro s h0 h1 hr
    refine q_M_readsOn_97 hK p kd a c s M ⟨fun q => ?_, fun q => ⟨_, _, R_aboveOn d M p a c hp, ?_⟩⟩
    · rw [if_pos q] at hr
      rw [w32_s (by omega) (by omega)]
      exact mret_i hr rfl
    · rw [if_neg q] at hr
      rw [w32_s (by omega) (by omega)]
      exact mret_i hr rfl
  have s59 : ∀ s : Int, (if kd = 2 then 0 else if s = 0 then cB (pg M p) a c else cB (pg M p) c a) + (if kd ≤ 1 then 0 else cA (pg M p) a c) = (if bk = 0 then rA kd (cB (pg M p) a c) (cB (pg M p) c a) (cA (pg M p) a c) else rA kd (cB (pg M p) c a) (cB (pg M p) a c) (cA (pg M p) a c)) → K 59 [(0, vr 53), (1, vi p), (4, vi kd), (5, vi a), (6, vi c)] [vi s] (S0, M) := by
    intro s hr
    refine q_M_readsOn_59 hK p kd a c s M ⟨fun q => ⟨fun q2 => ⟨_, _, R_besideOn d M p a c hp, s97 _ r1.1 r1.2 ?_⟩, fun q2 => ⟨_, _, R_besideOn d M p c a hp, s97 _ r2.1 r2.2 ?_⟩⟩, fun q => s97 0 (by omega) (by omega) ?_⟩
    · rw [if_neg q, if_pos q2] at hr
      exact hr
    · rw [if_neg q, if_neg q2] at hr
      exact hr
    · rw [if_pos (Decidable.not_not.mp q)] at hr
      exact hr
  have ar : ∀ s : Int, (s = 0 ↔ ((kd = 1 ∧ bk = 1) ∨ (kd ≠ 1 ∧ bk = 0))) → (if kd = 2 then 0 else if s = 0 then cB (pg M p) a c else cB (pg M p) c a) + (if kd ≤ 1 then 0 else cA (pg M p) a c) = (if bk = 0 then rA kd (cB (pg M p) a c) (cB (pg M p) c a) (cA (pg M p) a c) else rA kd (cB (pg M p) c a) (cB (pg M p) a c) (cA (pg M p) a c)) := by
    intro s hs
    exact rA_ar k0 hbk hs
  refine mIn_i (by omega) (by omega) (mIn_i (by omega) (by omega) (mIn_i (by omega) (by omega) ⟨fun q => ⟨fun q2 => s59 0 (ar 0 ?_), fun q2 => s59 1 (ar 1 ?_)⟩, fun q => ⟨fun q2 => s59 0 (ar 0 ?_), fun q2 => s59 1 (ar 1 ?_)⟩⟩))
  · omega
  · omega
  · omega
  · omega
theorem R_worthOn (d : Nat) (M : mMem) (p : Int) (n : Nat) (hp : 0 ≤ p ∧ p ≤ 425) (hn : M 54 (p + 39) = n) (h5 : n ≤ 5) (hL : lawOK (pgL M p) n) : mR3 (d + 3) 134 [vr 53, vi p] (S0, M) (some (vi (woS (pgL M p) (pg M p) n)), (S0, M)) := by
  refine ⟨⟨by decide, Nat.le_of_ble_eq_true rfl⟩, fun K hK => q_M_worthOn_0 hK p M ?_⟩
  have e9 : w32 (p + 39) = p + 39 := w32_s (by omega) (by omega)
  have loop : ∀ (j k : Nat), k + j = n → K 4 [(0, vr 53), (1, vi p), (2, vi (woS (pgL M p) (pg M p) k)), (3, vi (k : Int))] [] (S0, M) := by
    intro j
    induction j with
    | zero =>
      intro k hk
      refine q_M_worthOn_4 hK p _ _ M ?_
      rw [e9, hn]
      refine mIn_i (by omega) (by omega) (br_t (by omega) (mret_i ?_ rfl))
      rw [show k = n by omega]
    | succ j ih =>
      intro k hk
      refine q_M_worthOn_4 hK p _ _ M ?_
      have e0 : w32 (w32 (p + 55) + (k : Int)) = p + 40 + 5 * 3 + k := by rw [w32_s (z := p + 55) (by omega) (by omega), w32_s (by omega) (by omega)]; omega
      have g3 := pgL_at M p k 3 (by omega) (by omega)
      have e4 : w32 ((k : Int) + 1) = ((k + 1 : Nat) : Int) := by rw [w32_s (by omega) (by omega)]; omega
      rw [e9, hn, e0, ← g3, e4]
      refine mIn_i (by omega) (by omega) (br_f (by omega) (mIn_i (by omega) (by omega) ⟨_, _, R_readsOn d M p k 0 n hp hL (by omega) (by omega) (Or.inl rfl), ?_⟩))
      rw [if_pos rfl]
      have h1 := ih (k + 1) (by omega)
      have r0 := woS_rng (L := pgL M p) (f := pg M p) (n := k) (fun l h0 h1 => hL l h0 (by omega))
      have r1 := hL k (by omega) (by omega)
      have r2 := wr_rng r1.2.2.2 (rdL_rng (pgL M p) (pg M p) k)
      have e2 : w32 (pgL M p (4 * (k : Int) + 3) * rdL (pgL M p) (pg M p) k) = pgL M p (4 * (k : Int) + 3) * rdL (pgL M p) (pg M p) k := w32_s (by omega) (by omega)
      have e3 : w32 (woS (pgL M p) (pg M p) k + pgL M p (4 * (k : Int) + 3) * rdL (pgL M p) (pg M p) k) = woS (pgL M p) (pg M p) (k + 1) := by
        rw [w32_s (by omega) (by omega)]
        rfl
      rw [e2, e3]
      exact h1
  exact loop n 0 (by omega)
theorem R_heldOn (d : Nat) (M : mMem) (p : Int) (n : Nat) (hp : 0 ≤ p ∧ p ≤ 425) (hn : M 54 (p + 39) = n) (h5 : n ≤ 5) (hL : lawOK (pgL M p) n) : mR3 (d + 3) 135 [vr 53, vi p] (S0, M) (some (vi (hbF (fun l => rdL (pgL M p) (pg M p) l) n)), (S0, M)) := by
  refine ⟨⟨by decide, Nat.le_of_ble_eq_true rfl⟩, fun K hK => q_M_heldOn_0 hK p M ?_⟩
  have e9 : w32 (p + 39) = p + 39 := w32_s (by omega) (by omega)
  have loop : ∀ (j k : Nat), k + j = n → K 4 [(0, vr 53), (1, vi p), (2, vi (hbF (fun l => rdL (pgL M p) (pg M p) l) k)), (3, vi (k : Int))] [] (S0, M) := by
    intro j
    induction j with
    | zero =>
      intro k hk
      refine q_M_heldOn_4 hK p _ _ M ?_
      rw [e9, hn]
      refine mIn_i (by omega) (by omega) (br_t (by omega) (mret_i ?_ rfl))
      rw [show k = n by omega]
    | succ j ih =>
      intro k hk
      refine q_M_heldOn_4 hK p _ _ M ?_
      have e4 : w32 ((k : Int) + 1) = ((k + 1 : Nat) : Int) := by rw [w32_s (by omega) (by omega)]; omega
      rw [e9, hn, e4]
      have h1 := ih (k + 1) (by omega)
      have e5 : hbF (fun l => rdL (pgL M p) (pg M p) l) (k + 1) = jor (hbF (fun l => rdL (pgL M p) (pg M p) l) k) (if 0 < rdL (pgL M p) (pg M p) k then jshl 1 k else 0) := rfl
      rw [e5] at h1
      refine mIn_i (by omega) (by omega) (br_f (by omega) ⟨_, _, R_readsOn d M p k 0 n hp hL (by omega) (by omega) (Or.inl rfl), ?_⟩)
      rw [if_pos rfl]
      refine ⟨fun q => ?_, fun q => ?_⟩
      · rw [if_neg (by omega)] at h1
        exact h1
      · rw [if_pos (by omega)] at h1
        exact h1
  exact loop n 0 (by omega)
end
section
/-! PURE PROOFS 12: a charter and a page -/
theorem rdL_cong {L L' f f' : Int → Int} {l : Int} (h0 : L (4 * l) = L' (4 * l)) (h1 : L (4 * l + 1) = L' (4 * l + 1)) (h2 : L (4 * l + 2) = L' (4 * l + 2)) (hf : ∀ i, 0 ≤ i → i < 36 → f i = f' i) : rdL L f l = rdL L' f' l := by
  unfold rdL
  rw [h0, h1, h2, cB_cong hf, cB_cong hf, cA_cong hf]
theorem rdB_cong {L L' f f' : Int → Int} {l : Int} (h0 : L (4 * l) = L' (4 * l)) (h1 : L (4 * l + 1) = L' (4 * l + 1)) (h2 : L (4 * l + 2) = L' (4 * l + 2)) (hf : ∀ i, 0 ≤ i → i < 36 → f i = f' i) : rdB L f l = rdB L' f' l := by
  unfold rdB
  rw [h0, h1, h2, cB_cong hf, cB_cong hf, cA_cong hf]
theorem cO_cong {f f' : Int → Int} {s : Int} (h : ∀ i, 0 ≤ i → i < 36 → f i = f' i) : cO f s 36 = cO f' s 36 := by
  unfold cO
  refine sm_cong (fun k hk => ?_)
  rw [h k (by omega) (by omega)]
/-- the charter at b says what the page at p says -/
def Pg (M : mMem) (b : Nat) (p : Int) : Prop := (∀ i : Int, 0 ≤ i → i < 36 → M 54 (p + i) = M (b + 1) i) ∧ (∀ c : Int, 1 ≤ c → c ≤ 3 → M 54 (p + 35 + c) + 20 = M (b + 2) c) ∧ M 54 (p + 39) = M b 5 ∧ (∀ l x : Int, 0 ≤ l → l < M b 5 → 0 ≤ x → x < 4 → M 54 (p + 40 + 5 * x + l) = M (b + 3) (4 * l + x)) ∧ M 54 (p + 60) = M b 6 ∧ (∀ i : Int, 0 ≤ i → i < M b 6 → 6 * M 54 (p + 61 + 3 * i) + M 54 (p + 62 + 3 * i) = M (b + 4) i ∧ (0 ≤ M 54 (p + 62 + 3 * i) ∧ M 54 (p + 62 + 3 * i) < 6) ∧ M 54 (p + 63 + 3 * i) = M (b + 5) i)
theorem Pg_L {M : mMem} {b : Nat} {p : Int} (h : Pg M b p) {l : Int} (h0 : 0 ≤ l) (h1 : l < M b 5) : pgL M p (4 * l) = M (b + 3) (4 * l) ∧ pgL M p (4 * l + 1) = M (b + 3) (4 * l + 1) ∧ pgL M p (4 * l + 2) = M (b + 3) (4 * l + 2) ∧ pgL M p (4 * l + 3) = M (b + 3) (4 * l + 3) := by
  have g := h.2.2.2.1
  have g0 := g l 0 h0 h1 (by omega) (by omega)
  rw [Int.add_zero, Int.mul_zero, Int.add_zero] at g0
  refine ⟨?_, ?_, ?_, ?_⟩
  · rw [pgL_0]
    exact g0
  · rw [pgL_at M p l 1 (by omega) (by omega)]
    exact g l 1 h0 h1 (by omega) (by omega)
  · rw [pgL_at M p l 2 (by omega) (by omega)]
    exact g l 2 h0 h1 (by omega) (by omega)
  · rw [pgL_at M p l 3 (by omega) (by omega)]
    exact g l 3 h0 h1 (by omega) (by omega)
theorem Pg_law {M : mMem} {b : Nat} {p : Int} (h : Pg M b p) (hc : Cht M b) : lawOK (pgL M p) (M b 5) := by
  intro l h0 h1
  obtain ⟨e0, e1, e2, e3⟩ := Pg_L h h0 h1
  rw [e0, e1, e2, e3]
  exact hc.2.2.1 l h0 h1
theorem Pg_rd {M : mMem} {b : Nat} {p : Int} (h : Pg M b p) {l : Int} (h0 : 0 ≤ l) (h1 : l < M b 5) : rdL (pgL M p) (pg M p) l = rdL (M (b + 3)) (M (b + 1)) l := by
  obtain ⟨e0, e1, e2, _⟩ := Pg_L h h0 h1
  exact rdL_cong e0 e1 e2 h.1
theorem Pg_rdB {M : mMem} {b : Nat} {p : Int} (h : Pg M b p) {l : Int} (h0 : 0 ≤ l) (h1 : l < M b 5) : rdB (pgL M p) (pg M p) l = rdB (M (b + 3)) (M (b + 1)) l := by
  obtain ⟨e0, e1, e2, _⟩ := Pg_L h h0 h1
  exact rdB_cong e0 e1 e2 h.1
theorem Pg_wo {M : mMem} {b : Nat} {p : Int} (h : Pg M b p) {n : Nat} (hn : M b 5 = n) : woS (pgL M p) (pg M p) n = woS (M (b + 3)) (M (b + 1)) n := by
  unfold woS
  refine sm_cong (fun k hk => ?_)
  rw [Pg_rd h (by omega) (by omega), (Pg_L h (l := k) (by omega) (by omega)).2.2.2]
theorem Pg_hb {M : mMem} {b : Nat} {p : Int} (h : Pg M b p) {n : Nat} (hn : M b 5 = n) : hbF (fun l => rdL (pgL M p) (pg M p) l) n = hbF (fun l => rdL (M (b + 3)) (M (b + 1)) l) n :=
  hbF_cong (fun k hk => Pg_rd h (by omega) (by omega))
/-- a stitch on a page -/
def stM (M : mMem) (p k c : Int) : mMem := mupd (mupd M 54 (p + k) c) 54 (p + 35 + c) (M 54 (p + 35 + c) - 1)
theorem R_stitchesOn (d : Nat) (M : mMem) (p k c : Int) (hp : 0 ≤ p ∧ p ≤ 425) (hk : 0 ≤ k ∧ k < 36) (hc : 1 ≤ c ∧ c ≤ 3) (hs : -20 ≤ M 54 (p + 35 + c) ∧ M 54 (p + 35 + c) ≤ 79) : mR3 (d + 1) 148 [vr 53, vi p, vi k, vi c] (S0, M) (some (vi (b2 ((M 54 (p + k) = 0 ∧ 0 < M 54 (p + 35 + c) + 20)))), (S0, if (M 54 (p + k) = 0 ∧ 0 < M 54 (p + 35 + c) + 20) then stM M p k c else M)) := by
  refine ⟨⟨by decide, Nat.le_of_ble_eq_true rfl⟩, fun K hK => q_M_stitchesOn_0 hK p k c M ?_⟩
  have e1 : w32 (p + k) = p + k := w32_s (by omega) (by omega)
  have e2 : w32 (w32 (w32 (p + 36) + c) - 1) = p + 35 + c := by
    rw [w32_s (z := p + 36) (by omega) (by omega), w32_s (z := p + 36 + c) (by omega) (by omega), w32_s (by omega) (by omega)]
    omega
  have s0 : ¬ (M 54 (p + k) = 0 ∧ 0 < M 54 (p + 35 + c) + 20) → K 35 [(0, vr 53), (1, vi p), (2, vi k), (3, vi c)] [vi 0] (S0, M) := by
    intro h
    refine q_M_stitchesOn_35 hK p k c 0 M (br_t rfl (mBo_i (Or.inl rfl) (mret_i (b2_f h).symm ?_)))
    rw [if_neg h]
  rw [e1, e2, w32_s (z := M 54 (p + 35 + c) + 20) (by omega) (by omega)]
  refine mIn_i (by omega) (by omega) ⟨fun q => s0 (fun z => q z.1), fun q => mIn_i (by omega) (by omega) ⟨fun q2 => s0 (fun z => absurd z.2 (by omega)), fun q2 => ?_⟩⟩
  have h : (M 54 (p + k) = 0 ∧ 0 < M 54 (p + 35 + c) + 20) := ⟨Decidable.not_not.mp q, by omega⟩
  refine q_M_stitchesOn_35 hK p k c 1 M (br_f (by decide) ?_)
  rw [e1, e2]
  refine mIn_i (by omega) (by omega) (mIn_i (by omega) (by omega) (mIn_i (by omega) (by omega) (mBo_i (Or.inr rfl) (mret_i (b2_t h).symm ?_))))
  rw [if_pos h]
  unfold stM
  have e3 : mupd M 54 (p + k) c 54 (p + 35 + c) = M 54 (p + 35 + c) := by
    unfold mupd
    rw [if_neg (by omega)]
  rw [e3, w32_s (by omega) (by omega)]
theorem R_puts (d : Nat) (M : mMem) (g t v x : Int) (ht : g ≠ 0 → 0 ≤ t ∧ t < 510) : mR3 (d + 1) 142 [vr 53, vi g, vi t, vi v, vi x] (S0, M) (some (vi (if g ≠ 0 then w32 (M 54 t + x) else -1)), (S0, if g ≠ 0 then mupd M 54 t (w32 (v - x)) else M)) := by
  refine ⟨⟨by decide, Nat.le_of_ble_eq_true rfl⟩, fun K hK => q_M_puts_0 hK g t v x M ⟨fun q => ?_, fun q => ?_⟩⟩
  · have h := ht q
    refine mIn_i (by omega) (by omega) (mIn_i (by omega) (by omega) (mret_i ?_ ?_))
    · rw [if_pos q]
    · rw [if_pos q]
  · refine mret_i ?_ ?_
    · rw [if_neg q]
    · rw [if_neg q]
end
section
/-! PURE PROOFS 13: what holds between two calls -/
def ImI (M : mMem) (c b : Nat) (x p : Int) : Prop := (M c 1 = 0 ∨ M c 1 = 1) ∧ M 63 x = M c 1 ∧ (M c 1 = 1 → Cht M b ∧ Pg M b p)
def TaI (M : mMem) : Prop := (0 ≤ M 35 1 ∧ M 35 1 ≤ 160) ∧ M 53 5 = M 35 1 ∧ M 35 2 = M 53 6 ∧ ∀ i : Int, 0 ≤ i → i < M 35 1 → M 56 i = M 36 i ∧ 0 ≤ M 36 i ∧ M 36 i ≤ 127
def SeI (M : mMem) : Prop := (0 ≤ M 0 13 ∧ M 0 13 ≤ 6) ∧ M 53 22 = M 0 13 ∧ ∀ i : Int, 0 ≤ i → i < M 0 13 → M 60 (2 * i) = M 40 i ∧ M 60 (2 * i + 1) = M 41 i ∧ (0 ≤ M 40 i ∧ M 40 i ≤ 4) ∧ 0 ≤ M 41 i ∧ M 41 i ≤ 60
def ShI (M : mMem) (k : Nat) : Prop := (M (45 + 2 * k) 2 = -1 ∧ M 64 k = -4) ∨ ((0 ≤ M (45 + 2 * k) 2 ∧ M (45 + 2 * k) 2 ≤ 40) ∧ (0 ≤ M (45 + 2 * k) 1 ∧ M (45 + 2 * k) 1 ≤ 2) ∧ M 64 k = M (45 + 2 * k) 1 ∧ M 65 k = M (45 + 2 * k) 2 ∧ ∀ i : Int, 0 ≤ i → i < 40 → M 66 (40 * k + i) = M (46 + 2 * k) i)
def Inv (M : mMem) : Prop := Cht M 1 ∧ Pg M 1 0 ∧ ImI M 17 18 0 85 ∧ ImI M 26 27 1 170 ∧ TaI M ∧ SeI M ∧ (∀ k : Nat, k < 4 → ShI M k) ∧ M 0 16 = M 53 30 ∧ M 57 = M0 57 ∧ M 58 = M0 58
/-- rows that a call which only asks leaves as they are -/
def kept (k : Nat) : Prop := (1 ≤ k ∧ k ≤ 8) ∨ (17 ≤ k ∧ k ≤ 34) ∨ k = 36 ∨ k = 40 ∨ k = 41 ∨ (45 ≤ k ∧ k ≤ 52) ∨ (56 ≤ k ∧ k ≤ 58) ∨ k = 60 ∨ (63 ≤ k ∧ k ≤ 66)
def Fr (M N : mMem) : Prop := (∀ k : Nat, kept k → M k = N k) ∧ M 0 13 = N 0 13 ∧ M 0 16 = N 0 16 ∧ M 35 1 = N 35 1 ∧ M 35 2 = N 35 2 ∧ M 53 5 = N 53 5 ∧ M 53 6 = N 53 6 ∧ M 53 22 = N 53 22 ∧ M 53 30 = N 53 30 ∧ ∀ i : Int, 0 ≤ i → i < 255 → M 54 i = N 54 i
theorem Pg_fr {M N : mMem} {b : Nat} {p : Int} (h : Pg N b p) (h6 : N b 6 ≤ 8) (h5 : N b 5 ≤ 5) (e : ∀ k, b ≤ k → k < b + 8 → M k = N k) (e4 : ∀ i, p ≤ i → i < p + 85 → M 54 i = N 54 i) : Pg M b p := by
  obtain ⟨g1, g2, g3, g4, g5, g6⟩ := h
  unfold Pg
  rw [e (b + 1) (by omega) (by omega), e (b + 2) (by omega) (by omega), e (b + 3) (by omega) (by omega), e (b + 4) (by omega) (by omega), e (b + 5) (by omega) (by omega), e b (by omega) (by omega), e4 (p + 39) (by omega) (by omega), e4 (p + 60) (by omega) (by omega)]
  refine ⟨fun i h0 h1 => ?_, fun c h0 h1 => ?_, g3, fun l x h0 h1 h2 h3 => ?_, g5, fun i h0 h1 => ?_⟩
  · rw [e4 _ (by omega) (by omega)]
    exact g1 i h0 h1
  · rw [e4 _ (by omega) (by omega)]
    exact g2 c h0 h1
  · rw [e4 _ (by omega) (by omega)]
    exact g4 l x h0 h1 h2 h3
  · rw [e4 (p + 61 + 3 * i) (by omega) (by omega), e4 (p + 62 + 3 * i) (by omega) (by omega), e4 (p + 63 + 3 * i) (by omega) (by omega)]
    exact g6 i h0 h1
theorem Fr_refl (M : mMem) : Fr M M := ⟨fun _ _ => rfl, rfl, rfl, rfl, rfl, rfl, rfl, rfl, rfl, fun _ _ _ => rfl⟩
theorem Fr_trans {A B C : mMem} (h : Fr A B) (g : Fr B C) : Fr A C := by
  obtain ⟨h0, h1, h2, h3, h4, h5, h6, h7, h8, h9⟩ := h
  obtain ⟨g0, g1, g2, g3, g4, g5, g6, g7, g8, g9⟩ := g
  exact ⟨fun k q => (h0 k q).trans (g0 k q), h1.trans g1, h2.trans g2, h3.trans g3, h4.trans g4, h5.trans g5, h6.trans g6, h7.trans g7, h8.trans g8, fun i q r => (h9 i q r).trans (g9 i q r)⟩
theorem ImI_fr {M N : mMem} {c b : Nat} {x p : Int} (h : ImI N c b x p) (hc : M c = N c) (h3 : M 63 = N 63) (e : ∀ k, b ≤ k → k < b + 8 → M k = N k) (e4 : ∀ i, p ≤ i → i < p + 85 → M 54 i = N 54 i) : ImI M c b x p := by
  obtain ⟨g1, g2, g3⟩ := h
  unfold ImI
  rw [hc, h3]
  refine ⟨g1, g2, fun q => ?_⟩
  have g := g3 q
  have l := g.1.2.1
  have m := g.1.2.2.2.1
  exact ⟨Cht_eq g.1 e, Pg_fr g.2 m.2 l.2 e e4⟩
theorem Inv_fr {M N : mMem} (h : Inv N) (f : Fr M N) : Inv M := by
  obtain ⟨i1, i2, i3, i4, i5, i6, i7, i8, i9, i10⟩ := h
  obtain ⟨f0, f1, f2, f3, f4, f5, f6, f7, f8, f9⟩ := f
  have r : ∀ k : Nat, kept k → M k = N k := f0
  have l := i1.2.1
  have m := i1.2.2.2.1
  refine ⟨Cht_eq i1 (fun k h0 h1 => r k (by unfold kept; omega)), Pg_fr i2 m.2 l.2 (fun k h0 h1 => r k (by unfold kept; omega)) (fun i h0 h1 => f9 i (by omega) (by omega)), ?_, ?_, ?_, ?_, ?_, ?_, ?_, ?_⟩
  · exact ImI_fr i3 (r 17 (by unfold kept; omega)) (r 63 (by unfold kept; omega)) (fun k h0 h1 => r k (by unfold kept; omega)) (fun i h0 h1 => f9 i (by omega) (by omega))
  · exact ImI_fr i4 (r 26 (by unfold kept; omega)) (r 63 (by unfold kept; omega)) (fun k h0 h1 => r k (by unfold kept; omega)) (fun i h0 h1 => f9 i (by omega) (by omega))
  · unfold TaI
    rw [f3, f4, f5, f6, r 56 (by unfold kept; omega), r 36 (by unfold kept; omega)]
    exact i5
  · unfold SeI
    rw [f1, f7, r 60 (by unfold kept; omega), r 40 (by unfold kept; omega), r 41 (by unfold kept; omega)]
    exact i6
  · intro k hk
    unfold ShI
    rw [r (45 + 2 * k) (by unfold kept; omega), r (46 + 2 * k) (by unfold kept; omega), r 64 (by unfold kept; omega), r 65 (by unfold kept; omega), r 66 (by unfold kept; omega)]
    exact i7 k hk
  · rw [f2, f8]
    exact i8
  · rw [r 57 (by unfold kept; omega)]
    exact i9
  · rw [r 58 (by unfold kept; omega)]
    exact i10
end
section
/-! PURE PROOFS 14: pairs of calls -/
def PairI (y1 y2 : Nat) (as : List mVal) (M : mMem) : Prop := ∃ v m1 m2, mR3 10 y1 (vr 0 :: as) (S0, M) (some (vi v), (S0, m1)) ∧ mR3 10 y2 (vr 53 :: as) (S0, m1) (some (vi v), (S0, m2)) ∧ Inv m2
theorem P_fault {M : mMem} (h : Inv M) : PairI 48 127 [] M := by
  refine ⟨M 35 2, M, M, ⟨⟨by decide, Nat.le_of_ble_eq_true rfl⟩, fun K hK => q_L_fault_0 hK M (mret_i rfl rfl)⟩, ⟨⟨by decide, Nat.le_of_ble_eq_true rfl⟩, fun K hK => q_M_fault_0 hK M (mret_i ?_ rfl)⟩, h⟩
  exact h.2.2.2.2.1.2.2.1.symm
theorem P_torn {M : mMem} (h : Inv M) : PairI 85 188 [] M := by
  refine ⟨M 0 16, M, M, ⟨⟨by decide, Nat.le_of_ble_eq_true rfl⟩, fun K hK => q_L_torn_0 hK M (mret_i rfl rfl)⟩, ⟨⟨by decide, Nat.le_of_ble_eq_true rfl⟩, fun K hK => q_M_torn_0 hK M (mret_i ?_ rfl)⟩, h⟩
  exact h.2.2.2.2.2.2.2.1.symm
theorem R_L_end (d : Nat) (M : mMem) (n : Int) : mR3 (d + 1) 46 [vr 0, vi n] (S0, M) (some (vi (if 0 ≤ n ∧ n ≤ M 35 1 then M 35 1 else -1)), (S0, if 0 ≤ n ∧ n ≤ M 35 1 then mupd M 35 1 n else M)) := by
  refine ⟨⟨by decide, Nat.le_of_ble_eq_true rfl⟩, fun K hK => q_L_end_0 hK n M ⟨fun q => ?_, fun q => ⟨fun q2 => ?_, fun q2 => ?_⟩⟩⟩
  · exact mret_i (if_neg (by omega)).symm (if_neg (by omega)).symm
  · exact mret_i (if_pos (by omega)).symm (if_pos (by omega)).symm
  · exact mret_i (if_neg (by omega)).symm (if_neg (by omega)).symm
theorem R_M_end (d : Nat) (M : mMem) (n : Int) : mR3 (d + 2) 117 [vr 53, vi n] (S0, M) (some (vi (if 0 ≤ n ∧ n ≤ M 53 5 then M 53 5 else -1)), (S0, if 0 ≤ n ∧ n ≤ M 53 5 then mupd M 53 5 n else M)) := by
  refine ⟨⟨by decide, Nat.le_of_ble_eq_true rfl⟩, fun K hK => q_M_end_0 hK n M ⟨_, _, R_in d M _ _ _, ⟨fun q => ?_, fun q => ?_⟩⟩⟩
  · have q := b2_n0.mp q
    exact mret_i (if_pos (by omega)).symm (if_pos (by omega)).symm
  · have q := b2_0.mp (Decidable.not_not.mp q)
    exact mret_i (if_neg (by omega)).symm (if_neg (by omega)).symm
theorem R_L_forget (d : Nat) (M : mMem) (n : Int) : mR3 (d + 1) 74 [vr 0, vi n] (S0, M) (some (vi (if 0 ≤ n ∧ n ≤ M 0 13 then M 0 13 else -1)), (S0, if 0 ≤ n ∧ n ≤ M 0 13 then mupd M 0 13 n else M)) := by
  refine ⟨⟨by decide, Nat.le_of_ble_eq_true rfl⟩, fun K hK => q_L_forget_0 hK n M ⟨fun q => ?_, fun q => ⟨fun q2 => ?_, fun q2 => ?_⟩⟩⟩
  · exact mret_i (if_neg (by omega)).symm (if_neg (by omega)).symm
  · exact mret_i (if_pos (by omega)).symm (if_pos (by omega)).symm
  · exact mret_i (if_neg (by omega)).symm (if_neg (by omega)).symm
theorem R_M_forget (d : Nat) (M : mMem) (n : Int) : mR3 (d + 2) 173 [vr 53, vi n] (S0, M) (some (vi (if 0 ≤ n ∧ n ≤ M 53 22 then M 53 22 else -1)), (S0, if 0 ≤ n ∧ n ≤ M 53 22 then mupd M 53 22 n else M)) := by
  refine ⟨⟨by decide, Nat.le_of_ble_eq_true rfl⟩, fun K hK => q_M_forget_0 hK n M ⟨_, _, R_in d M _ _ _, ⟨fun q => ?_, fun q => ?_⟩⟩⟩
  · have q := b2_n0.mp q
    exact mret_i (if_pos (by omega)).symm (if_pos (by omega)).symm
  · have q := b2_0.mp (Decidable.not_not.mp q)
    exact mret_i (if_neg (by omega)).symm (if_neg (by omega)).symm
end
section
/-! PURE PROOFS 15: pairs of calls that change the tape or what was seen -/
theorem TaI_fr {M N : mMem} (h : TaI N) (f1 : M 35 1 = N 35 1) (f2 : M 35 2 = N 35 2) (f5 : M 53 5 = N 53 5) (f6 : M 53 6 = N 53 6) (r6 : M 56 = N 56) (r3 : M 36 = N 36) : TaI M := by
  unfold TaI
  rw [f1, f2, f5, f6, r6, r3]
  exact h
theorem SeI_fr {M N : mMem} (h : SeI N) (f1 : M 0 13 = N 0 13) (f2 : M 53 22 = N 53 22) (r0 : M 60 = N 60) (r1 : M 40 = N 40) (r2 : M 41 = N 41) : SeI M := by
  unfold SeI
  rw [f1, f2, r0, r1, r2]
  exact h
theorem ShI_fr {M N : mMem} (h : ∀ k : Nat, k < 4 → ShI N k) (r : ∀ k : Nat, (45 ≤ k ∧ k ≤ 52) ∨ (64 ≤ k ∧ k ≤ 66) → M k = N k) : ∀ k : Nat, k < 4 → ShI M k := by
  intro k hk
  unfold ShI
  rw [r (45 + 2 * k) (by omega), r (46 + 2 * k) (by omega), r 64 (by omega), r 65 (by omega), r 66 (by omega)]
  exact h k hk
theorem Inv_ch {M N : mMem} (h : Inv N) (r : ∀ k : Nat, (1 ≤ k ∧ k ≤ 8) ∨ (17 ≤ k ∧ k ≤ 34) ∨ k = 57 ∨ k = 58 ∨ k = 63 → M k = N k) (f9 : ∀ i : Int, 0 ≤ i → i < 255 → M 54 i = N 54 i) (t : TaI M) (s : SeI M) (sh : ∀ k : Nat, k < 4 → ShI M k) (o : M 0 16 = M 53 30) : Inv M := by
  obtain ⟨i1, i2, i3, i4, _, _, _, _, i9, i10⟩ := h
  have l := i1.2.1
  have m := i1.2.2.2.1
  refine ⟨Cht_eq i1 (fun k h0 h1 => r k (by omega)), Pg_fr i2 m.2 l.2 (fun k h0 h1 => r k (by omega)) (fun i h0 h1 => f9 i (by omega) (by omega)), ?_, ?_, t, s, sh, o, ?_, ?_⟩
  · exact ImI_fr i3 (r 17 (by omega)) (r 63 (by omega)) (fun k h0 h1 => r k (by omega)) (fun i h0 h1 => f9 i (by omega) (by omega))
  · exact ImI_fr i4 (r 26 (by omega)) (r 63 (by omega)) (fun k h0 h1 => r k (by omega)) (fun i h0 h1 => f9 i (by omega) (by omega))
  · rw [r 57 (by omega)]
    exact i9
  · rw [r 58 (by omega)]
    exact i10
theorem P_end {M : mMem} (h : Inv M) (n : Int) : PairI 46 117 [vi n] M := by
  have ht := h.2.2.2.2.1
  have hs := h.2.2.2.2.2.1
  have hh := h.2.2.2.2.2.2.1
  have ho := h.2.2.2.2.2.2.2.1
  have a1 := R_L_end 9 M n
  by_cases c : 0 ≤ n ∧ n ≤ M 35 1
  · rw [if_pos c, if_pos c] at a1
    have a2 := R_M_end 8 (mupd M 35 1 n) n
    have e5 : mupd M 35 1 n 53 5 = M 35 1 := by
      rw [mupd_ne _ _ _ (by decide)]
      exact ht.2.1
    rw [e5, if_pos c, if_pos c] at a2
    refine ⟨_, _, _, a1, a2, ?_⟩
    have e : ∀ k : Nat, k ≠ 35 → k ≠ 53 → mupd (mupd M 35 1 n) 53 5 n k = M k := fun k h1 h2 => by rw [mupd_ne _ _ _ h2, mupd_ne _ _ _ h1]
    have e35 : mupd (mupd M 35 1 n) 53 5 n 35 = fup (M 35) 1 n := by rw [mupd_ne _ _ _ (by decide), mupd_at]
    have e53 : mupd (mupd M 35 1 n) 53 5 n 53 = fup (M 53) 5 n := by rw [mupd_at, mupd_ne _ _ _ (by decide)]
    refine Inv_ch h (fun k hk => e k (by omega) (by omega)) (fun i _ _ => by rw [e 54 (by decide) (by decide)]) ?_ ?_ (ShI_fr hh (fun k hk => e k (by omega) (by omega))) ?_
    · unfold TaI
      rw [e35, e53, e 56 (by decide) (by decide), e 36 (by decide) (by decide), fup_at, fup_at, fup_ne _ _ (show (2 : Int) ≠ 1 by decide), fup_ne _ _ (show (6 : Int) ≠ 5 by decide)]
      have t1 : 0 ≤ M 35 1 ∧ M 35 1 ≤ 160 := ht.1
      exact ⟨by omega, rfl, ht.2.2.1, fun i h0 h1 => ht.2.2.2 i h0 (by omega)⟩
    · exact SeI_fr hs (by rw [e 0 (by decide) (by decide)]) (by rw [e53, fup_ne _ _ (by decide)]) (e 60 (by decide) (by decide)) (e 40 (by decide) (by decide)) (e 41 (by decide) (by decide))
    · rw [e 0 (by decide) (by decide), e53, fup_ne _ _ (by decide)]
      exact ho
  · rw [if_neg c, if_neg c] at a1
    have a2 := R_M_end 8 M n
    rw [ht.2.1, if_neg c, if_neg c] at a2
    exact ⟨_, _, _, a1, a2, h⟩
end
section
/-! PURE PROOFS 16: forget -/
theorem P_forget {M : mMem} (h : Inv M) (n : Int) : PairI 74 173 [vi n] M := by
  have ht := h.2.2.2.2.1
  have hs := h.2.2.2.2.2.1
  have hh := h.2.2.2.2.2.2.1
  have ho := h.2.2.2.2.2.2.2.1
  have a1 := R_L_forget 9 M n
  by_cases c : 0 ≤ n ∧ n ≤ M 0 13
  · rw [if_pos c, if_pos c] at a1
    have a2 := R_M_forget 8 (mupd M 0 13 n) n
    have e5 : mupd M 0 13 n 53 22 = M 0 13 := by
      rw [mupd_ne _ _ _ (by decide)]
      exact hs.2.1
    rw [e5, if_pos c, if_pos c] at a2
    refine ⟨_, _, _, a1, a2, ?_⟩
    have e : ∀ k : Nat, k ≠ 0 → k ≠ 53 → mupd (mupd M 0 13 n) 53 22 n k = M k := fun k h1 h2 => by rw [mupd_ne _ _ _ h2, mupd_ne _ _ _ h1]
    have e0 : mupd (mupd M 0 13 n) 53 22 n 0 = fup (M 0) 13 n := by rw [mupd_ne _ _ _ (by decide), mupd_at]
    have e53 : mupd (mupd M 0 13 n) 53 22 n 53 = fup (M 53) 22 n := by rw [mupd_at, mupd_ne _ _ _ (by decide)]
    refine Inv_ch h (fun k hk => e k (by omega) (by omega)) (fun i _ _ => by rw [e 54 (by decide) (by decide)]) ?_ ?_ (ShI_fr hh (fun k hk => e k (by omega) (by omega))) ?_
    · exact TaI_fr ht (by rw [e 35 (by decide) (by decide)]) (by rw [e 35 (by decide) (by decide)]) (by rw [e53, fup_ne _ _ (by decide)]) (by rw [e53, fup_ne _ _ (by decide)]) (e 56 (by decide) (by decide)) (e 36 (by decide) (by decide))
    · unfold SeI
      rw [e0, e53, e 60 (by decide) (by decide), e 40 (by decide) (by decide), e 41 (by decide) (by decide), fup_at, fup_at]
      have t1 : 0 ≤ M 0 13 ∧ M 0 13 ≤ 6 := hs.1
      exact ⟨by omega, rfl, fun i h0 h1 => hs.2.2 i h0 (by omega)⟩
    · rw [e0, e53, fup_ne _ _ (by decide), fup_ne _ _ (by decide)]
      exact ho
  · rw [if_neg c, if_neg c] at a1
    have a2 := R_M_forget 8 M n
    rw [hs.2.1, if_neg c, if_neg c] at a2
    exact ⟨_, _, _, a1, a2, h⟩
end
section
/-! PURE PROOFS 17: feed -/
theorem P_feed {M : mMem} (h : Inv M) (x : Int) : PairI 45 116 [vi x] M := by
  have ht := h.2.2.2.2.1
  have hs := h.2.2.2.2.2.1
  have hh := h.2.2.2.2.2.2.1
  have ho := h.2.2.2.2.2.2.2.1
  have t1 : 0 ≤ M 35 1 ∧ M 35 1 ≤ 160 := ht.1
  have t2 : M 53 5 = M 35 1 := ht.2.1
  by_cases c : 0 ≤ x ∧ x ≤ 127
  · by_cases c2 : M 35 1 < 160
    · have w1 : w32 (M 35 1 + 1) = M 35 1 + 1 := w32_s (by omega) (by omega)
      have x1 : mupd M 36 (M 35 1) x 35 1 = M 35 1 := by rw [mupd_ne _ _ _ (by decide)]
      have a1 : mR3 10 45 [vr 0, vi x] (S0, M) (some (vi (M 35 1 + 1)), (S0, mupd (mupd M 36 (M 35 1) x) 35 1 (M 35 1 + 1))) := by
        refine ⟨⟨by decide, Nat.le_of_ble_eq_true rfl⟩, fun K hK => q_L_feed_0 hK x M (br_f (by omega) (br_t c.2 (br_t c2 (mIn_i (by omega) (by omega) ?_))))⟩
        rw [x1, w1]
        exact mret_i (by rw [mupd_at, fup_at]) rfl
      have e0 : ∀ k : Nat, k ≠ 36 → k ≠ 35 → mupd (mupd M 36 (M 35 1) x) 35 1 (M 35 1 + 1) k = M k := fun k h1 h2 => by rw [mupd_ne _ _ _ h2, mupd_ne _ _ _ h1]
      have f35 : mupd (mupd M 36 (M 35 1) x) 35 1 (M 35 1 + 1) 35 = fup (M 35) 1 (M 35 1 + 1) := by rw [mupd_at, mupd_ne _ _ _ (by decide)]
      have f36 : mupd (mupd M 36 (M 35 1) x) 35 1 (M 35 1 + 1) 36 = fup (M 36) (M 35 1) x := by rw [mupd_ne _ _ _ (by decide), mupd_at]
      generalize mupd (mupd M 36 (M 35 1) x) 35 1 (M 35 1 + 1) = m at a1 e0 f35 f36
      have y1 : m 53 5 = M 35 1 := by rw [e0 53 (by decide) (by decide)]; exact t2
      have y2 : mupd m 56 (M 35 1) x 53 5 = M 35 1 := by rw [mupd_ne _ _ _ (by decide)]; exact y1
      have a2 : mR3 10 116 [vr 53, vi x] (S0, m) (some (vi (M 35 1 + 1)), (S0, mupd (mupd m 56 (M 35 1) x) 53 5 (M 35 1 + 1))) := by
        refine ⟨⟨by decide, Nat.le_of_ble_eq_true rfl⟩, fun K hK => q_M_feed_0 hK x m ⟨_, _, R_in 8 m _ _ _, br_t (b2_n0.mpr (by omega)) (br_t (by omega) ?_)⟩⟩
        rw [y1, y2, w1]
        exact mIn_i (by omega) (by omega) (mret_i (by rw [mupd_at, fup_at]) rfl)
      refine ⟨_, _, _, a1, a2, ?_⟩
      have e : ∀ k : Nat, k ≠ 36 → k ≠ 35 → k ≠ 56 → k ≠ 53 → mupd (mupd m 56 (M 35 1) x) 53 5 (M 35 1 + 1) k = M k := fun k h1 h2 h3 h4 => by rw [mupd_ne _ _ _ h4, mupd_ne _ _ _ h3, e0 k h1 h2]
      have e35 : mupd (mupd m 56 (M 35 1) x) 53 5 (M 35 1 + 1) 35 = fup (M 35) 1 (M 35 1 + 1) := by rw [mupd_ne _ _ _ (by decide), mupd_ne _ _ _ (by decide), f35]
      have e36 : mupd (mupd m 56 (M 35 1) x) 53 5 (M 35 1 + 1) 36 = fup (M 36) (M 35 1) x := by rw [mupd_ne _ _ _ (by decide), mupd_ne _ _ _ (by decide), f36]
      have e56 : mupd (mupd m 56 (M 35 1) x) 53 5 (M 35 1 + 1) 56 = fup (M 56) (M 35 1) x := by rw [mupd_ne _ _ _ (by decide), mupd_at, e0 56 (by decide) (by decide)]
      have e53 : mupd (mupd m 56 (M 35 1) x) 53 5 (M 35 1 + 1) 53 = fup (M 53) 5 (M 35 1 + 1) := by rw [mupd_at, mupd_ne _ _ _ (by decide), e0 53 (by decide) (by decide)]
      refine Inv_ch h (fun k hk => e k (by omega) (by omega) (by omega) (by omega)) (fun i _ _ => by rw [e 54 (by decide) (by decide) (by decide) (by decide)]) ?_ ?_ (ShI_fr hh (fun k hk => e k (by omega) (by omega) (by omega) (by omega))) ?_
      · unfold TaI
        rw [e35, e53, e36, e56, fup_at, fup_at, fup_ne _ _ (show (2 : Int) ≠ 1 by decide), fup_ne _ _ (show (6 : Int) ≠ 5 by decide)]
        refine ⟨by omega, rfl, ht.2.2.1, fun i h0 h1 => ?_⟩
        by_cases z : i = M 35 1
        · rw [z, fup_at, fup_at]
          exact ⟨rfl, c⟩
        · rw [fup_ne _ _ z, fup_ne _ _ z]
          exact ht.2.2.2 i h0 (by omega)
      · exact SeI_fr hs (by rw [e 0 (by decide) (by decide) (by decide) (by decide)]) (by rw [e53, fup_ne _ _ (by decide)]) (e 60 (by decide) (by decide) (by decide) (by decide)) (e 40 (by decide) (by decide) (by decide) (by decide)) (e 41 (by decide) (by decide) (by decide) (by decide))
      · rw [e 0 (by decide) (by decide) (by decide) (by decide), e53, fup_ne _ _ (by decide)]
        exact ho
    · refine ⟨-3, M, M, ⟨⟨by decide, Nat.le_of_ble_eq_true rfl⟩, fun K hK => q_L_feed_0 hK x M (br_f (by omega) (br_t c.2 (br_f c2 (mret_i rfl rfl))))⟩, ⟨⟨by decide, Nat.le_of_ble_eq_true rfl⟩, fun K hK => q_M_feed_0 hK x M ⟨_, _, R_in 8 M _ _ _, br_t (b2_n0.mpr (by omega)) (br_f (fun z => z (by omega)) (mret_i rfl rfl))⟩⟩, h⟩
  · refine ⟨-1, M, M, ⟨⟨by decide, Nat.le_of_ble_eq_true rfl⟩, fun K hK => q_L_feed_0 hK x M ⟨fun _ => mret_i rfl rfl, fun q => br_f (by omega) (mret_i rfl rfl)⟩⟩, ⟨⟨by decide, Nat.le_of_ble_eq_true rfl⟩, fun K hK => q_M_feed_0 hK x M ⟨_, _, R_in 8 M _ _ _, br_f (fun z => c (b2_n0.mp z)) (mret_i rfl rfl)⟩⟩, h⟩
end
section
/-! PURE PROOFS 18: cell, thread -/
theorem P_cell {M : mMem} (h : Inv M) (x y : Int) : PairI 50 138 [vi x, vi y] M := by
  have hp := h.2.1
  by_cases c : 0 ≤ x ∧ x < 6 ∧ 0 ≤ y ∧ y < 6
  · refine ⟨M 2 (6 * x + y), M, M, ⟨⟨by decide, Nat.le_of_ble_eq_true rfl⟩, fun K hK => q_L_cell_0 hK x y M ⟨_, _, R_isCell 8 M x y, br_f (fun z => b2_0.mp z c) ⟨_, _, R_place 8 M (x := x) (y := y) (by omega) (by omega), mIn_i (by omega) (by omega) (mret_i rfl rfl)⟩⟩⟩, ⟨⟨by decide, Nat.le_of_ble_eq_true rfl⟩, fun K hK => q_M_cell_0 hK x y M ⟨_, _, R_mIsCell 7 M x y, br_f (fun z => b2_0.mp z c) ?_⟩⟩, h⟩
    have e : w32 (w32 (6 * x) + y) = 6 * x + y := by rw [w32_s (z := 6 * x) (by omega) (by omega), w32_s (by omega) (by omega)]
    rw [e]
    refine mIn_i (by omega) (by omega) (mret_i ?_ rfl)
    have g := hp.1 (6 * x + y) (by omega) (by omega)
    rw [Int.zero_add] at g
    exact g
  · exact ⟨-1, M, M, ⟨⟨by decide, Nat.le_of_ble_eq_true rfl⟩, fun K hK => q_L_cell_0 hK x y M ⟨_, _, R_isCell 8 M x y, br_t (b2_f c) (mret_i rfl rfl)⟩⟩, ⟨⟨by decide, Nat.le_of_ble_eq_true rfl⟩, fun K hK => q_M_cell_0 hK x y M ⟨_, _, R_mIsCell 7 M x y, br_t (b2_f c) (mret_i rfl rfl)⟩⟩, h⟩
theorem P_thread {M : mMem} (h : Inv M) (c : Int) : PairI 51 139 [vi c] M := by
  have hp := h.2.1
  have hs := h.1.2.2.2.2.2
  by_cases z : 1 ≤ c ∧ c ≤ 3
  · refine ⟨M 3 c, M, M, ⟨⟨by decide, Nat.le_of_ble_eq_true rfl⟩, fun K hK => q_L_thread_0 hK c M ⟨_, _, R_isColour 8 M c, br_f (fun q => b2_0.mp q z) (mIn_i (by omega) (by omega) (mret_i rfl rfl))⟩⟩, ⟨⟨by decide, Nat.le_of_ble_eq_true rfl⟩, fun K hK => q_M_thread_0 hK c M ⟨_, _, R_mIsColour 7 M c, br_f (fun q => b2_0.mp q z) ?_⟩⟩, h⟩
    have e : w32 (w32 (36 + c) - 1) = 0 + 35 + c := by
      rw [w32_s (z := 36 + c) (by omega) (by omega), w32_s (by omega) (by omega)]
      omega
    have g : M 54 (0 + 35 + c) + 20 = M 3 c := hp.2.1 c z.1 z.2
    have r : 0 ≤ M 3 c ∧ M 3 c ≤ 99 := hs c z.1 z.2
    rw [e, g, w32_s (z := M 3 c) (by omega) (by omega)]
    exact mIn_i (by omega) (by omega) (mret_i rfl rfl)
  · exact ⟨-1, M, M, ⟨⟨by decide, Nat.le_of_ble_eq_true rfl⟩, fun K hK => q_L_thread_0 hK c M ⟨_, _, R_isColour 8 M c, br_t (b2_f z) (mret_i rfl rfl)⟩⟩, ⟨⟨by decide, Nat.le_of_ble_eq_true rfl⟩, fun K hK => q_M_thread_0 hK c M ⟨_, _, R_mIsColour 7 M c, br_t (b2_f z) (mret_i rfl rfl)⟩⟩, h⟩
end
section
/-! PURE PROOFS 19: calls that change the charter -/
theorem Inv_c1 {M N : mMem} (h : Inv N) (c : Cht M 1) (p : Pg M 1 0) (r : ∀ k : Nat, (k = 0 ∨ 17 ≤ k) → k ≠ 54 → M k = N k) (f : ∀ i : Int, 85 ≤ i → i < 255 → M 54 i = N 54 i) : Inv M := by
  obtain ⟨_, _, i3, i4, i5, i6, i7, i8, i9, i10⟩ := h
  refine ⟨c, p, ?_, ?_, ?_, ?_, ?_, ?_, ?_, ?_⟩
  · exact ImI_fr i3 (r 17 (by omega) (by omega)) (r 63 (by omega) (by omega)) (fun k h0 h1 => r k (by omega) (by omega)) (fun i h0 h1 => f i (by omega) (by omega))
  · exact ImI_fr i4 (r 26 (by omega) (by omega)) (r 63 (by omega) (by omega)) (fun k h0 h1 => r k (by omega) (by omega)) (fun i h0 h1 => f i (by omega) (by omega))
  · exact TaI_fr i5 (by rw [r 35 (by omega) (by omega)]) (by rw [r 35 (by omega) (by omega)]) (by rw [r 53 (by omega) (by omega)]) (by rw [r 53 (by omega) (by omega)]) (r 56 (by omega) (by omega)) (r 36 (by omega) (by omega))
  · exact SeI_fr i6 (by rw [r 0 (by omega) (by omega)]) (by rw [r 53 (by omega) (by omega)]) (r 60 (by omega) (by omega)) (r 40 (by omega) (by omega)) (r 41 (by omega) (by omega))
  · exact ShI_fr i7 (fun k hk => r k (by omega) (by omega))
  · rw [r 0 (by omega) (by omega), r 53 (by omega) (by omega)]
    exact i8
  · rw [r 57 (by omega) (by omega)]
    exact i9
  · rw [r 58 (by omega) (by omega)]
    exact i10
theorem Cht_mk {M N : mMem} {b : Nat} (h : Cht N b) (e1 : M (b + 1) = N (b + 1)) (e6 : M (b + 6) = N (b + 6)) (e7 : M (b + 7) = N (b + 7)) (l0 : 0 ≤ M b 5 ∧ M b 5 ≤ 5) (l1 : lawOK (M (b + 3)) (M b 5)) (p0 : 0 ≤ M b 6 ∧ M b 6 ≤ 8) (p1 : planOK (M (b + 4)) (M (b + 5)) (M b 6)) (sp : spOK (M (b + 2))) : Cht M b :=
  ⟨Tal_of h.1 (fun i _ _ => by rw [e1]) (fun i _ _ => by rw [e6]) (fun i _ _ => by rw [e7]), l0, l1, p0, p1, sp⟩
def Pg0 (M : mMem) : Prop := (∀ i : Int, 0 ≤ i → i < 36 → M 54 i = M 2 i) ∧ (∀ c : Int, 1 ≤ c → c ≤ 3 → M 54 (35 + c) + 20 = M 3 c) ∧ M 54 39 = M 1 5 ∧ (∀ l x : Int, 0 ≤ l → l < M 1 5 → 0 ≤ x → x < 4 → M 54 (40 + 5 * x + l) = M 4 (4 * l + x)) ∧ M 54 60 = M 1 6 ∧ (∀ i : Int, 0 ≤ i → i < M 1 6 → 6 * M 54 (61 + 3 * i) + M 54 (62 + 3 * i) = M 5 i ∧ (0 ≤ M 54 (62 + 3 * i) ∧ M 54 (62 + 3 * i) < 6) ∧ M 54 (63 + 3 * i) = M 6 i)
theorem Pg0_of {M : mMem} (h : Pg M 1 0) : Pg0 M := by
  obtain ⟨g1, g2, g3, g4, g5, g6⟩ := h
  refine ⟨fun i a b => ?_, fun c a b => ?_, g3, fun l x a b c d => ?_, g5, fun i a b => ?_⟩
  · have g := g1 i a b
    rw [Int.zero_add] at g
    exact g
  · have g := g2 c a b
    rw [Int.zero_add] at g
    exact g
  · have g := g4 l x a b c d
    rw [Int.zero_add] at g
    exact g
  · have g := g6 i a b
    rw [Int.zero_add, Int.zero_add, Int.zero_add] at g
    exact g
theorem Pg_of0 {M : mMem} (h : Pg0 M) : Pg M 1 0 := by
  obtain ⟨g1, g2, g3, g4, g5, g6⟩ := h
  refine ⟨fun i a b => ?_, fun c a b => ?_, g3, fun l x a b c d => ?_, g5, fun i a b => ?_⟩
  · rw [Int.zero_add]
    exact g1 i a b
  · rw [Int.zero_add]
    exact g2 c a b
  · rw [Int.zero_add]
    exact g4 l x a b c d
  · rw [Int.zero_add, Int.zero_add, Int.zero_add]
    exact g6 i a b
theorem P_cut {M : mMem} (h : Inv M) (n : Int) : PairI 57 146 [vi n] M := by
  have hc := h.1
  have hp := Pg0_of h.2.1
  have p0 : 0 ≤ M 1 6 ∧ M 1 6 ≤ 8 := hc.2.2.2.1
  have p5 : M 54 60 = M 1 6 := hp.2.2.2.2.1
  by_cases c : 0 ≤ n ∧ n ≤ M 1 6
  · have a1 : mR3 10 57 [vr 0, vi n] (S0, M) (some (vi (M 1 6)), (S0, mupd M 1 6 n)) :=
      ⟨⟨by decide, Nat.le_of_ble_eq_true rfl⟩, fun K hK => q_L_cut_0 hK n M (br_f (by omega) (br_t c.2 (mret_i rfl rfl)))⟩
    have e54 : mupd M 1 6 n 54 = M 54 := mupd_ne _ _ _ (by decide)
    have a2 : mR3 10 146 [vr 53, vi n] (S0, mupd M 1 6 n) (some (vi (M 1 6)), (S0, mupd (mupd M 1 6 n) 54 60 n)) := by
      refine ⟨⟨by decide, Nat.le_of_ble_eq_true rfl⟩, fun K hK => q_M_cut_0 hK n _ ⟨_, _, R_in 8 _ _ _ _, _, _, R_puts 8 _ _ 60 n 0 (fun _ => ⟨by decide, by decide⟩), ?_⟩⟩
      have z : b2 ((0 : Nat) ≤ n ∧ n ≤ mupd M 1 6 n 54 60) ≠ 0 := b2_n0.mpr (by rw [e54, p5]; exact c)
      rw [if_pos z, if_pos z, e54, p5, Int.add_zero, Int.sub_zero, w32_s (by omega) (by omega), w32_s (by omega) (by omega)]
      exact mret_i rfl rfl
    refine ⟨_, _, _, a1, a2, ?_⟩
    have e : ∀ k : Nat, k ≠ 1 → k ≠ 54 → mupd (mupd M 1 6 n) 54 60 n k = M k := fun k h1 h2 => by rw [mupd_ne _ _ _ h2, mupd_ne _ _ _ h1]
    have f1 : mupd (mupd M 1 6 n) 54 60 n 1 = fup (M 1) 6 n := by rw [mupd_ne _ _ _ (by decide), mupd_at]
    have f54 : mupd (mupd M 1 6 n) 54 60 n 54 = fup (M 54) 60 n := by rw [mupd_at, e54]
    generalize mupd (mupd M 1 6 n) 54 60 n = m at e f1 f54
    have f5 : m 1 5 = M 1 5 := by rw [f1, fup_ne _ _ (by decide)]
    have f6 : m 1 6 = n := by rw [f1, fup_at]
    refine Inv_c1 h (Cht_mk hc (e 2 (by decide) (by decide)) (e 7 (by decide) (by decide)) (e 8 (by decide) (by decide)) ?_ ?_ ?_ ?_ ?_) (Pg_of0 ?_) (fun k h1 h2 => e k (by omega) h2) (fun i h0 h1 => by rw [f54, fup_ne _ _ (by omega)])
    · rw [f5]
      exact hc.2.1
    · rw [f5, e (1 + 3) (by decide) (by decide)]
      exact hc.2.2.1
    · rw [f6]
      omega
    · rw [f6, e (1 + 4) (by decide) (by decide), e (1 + 5) (by decide) (by decide)]
      exact fun i h0 h1 => hc.2.2.2.2.1 i h0 (by omega)
    · rw [e (1 + 2) (by decide) (by decide)]
      exact hc.2.2.2.2.2
    · unfold Pg0
      rw [f54, f5, f6, e 2 (by decide) (by decide), e 3 (by decide) (by decide), e 4 (by decide) (by decide), e 5 (by decide) (by decide), e 6 (by decide) (by decide), fup_at]
      refine ⟨fun i h0 h1 => ?_, fun i h0 h1 => ?_, ?_, fun l x h0 h1 h2 h3 => ?_, rfl, fun i h0 h1 => ?_⟩
      · rw [fup_ne _ _ (by omega)]
        exact hp.1 i h0 h1
      · rw [fup_ne _ _ (by omega)]
        exact hp.2.1 i h0 h1
      · rw [fup_ne _ _ (by omega)]
        exact hp.2.2.1
      · have b5 : 0 ≤ M 1 5 ∧ M 1 5 ≤ 5 := hc.2.1
        rw [fup_ne _ _ (by omega)]
        exact hp.2.2.2.1 l x h0 h1 h2 h3
      · rw [fup_ne _ _ (by omega), fup_ne _ _ (by omega), fup_ne _ _ (by omega)]
        exact hp.2.2.2.2.2 i h0 (by omega)
  · refine ⟨-1, M, M, ⟨⟨by decide, Nat.le_of_ble_eq_true rfl⟩, fun K hK => q_L_cut_0 hK n M ⟨fun _ => mret_i rfl rfl, fun q => br_f (by omega) (mret_i rfl rfl)⟩⟩, ⟨⟨by decide, Nat.le_of_ble_eq_true rfl⟩, fun K hK => q_M_cut_0 hK n M ⟨_, _, R_in 8 _ _ _ _, _, _, R_puts 8 _ _ 60 n 0 (fun _ => ⟨by decide, by decide⟩), ?_⟩⟩, h⟩
    have z : ¬ b2 ((0 : Nat) ≤ n ∧ n ≤ M 54 60) ≠ 0 := fun q => c (by have q := b2_n0.mp q; rw [p5] at q; exact q)
    rw [if_neg z, if_neg z]
    exact mret_i rfl rfl
end
section
/-! PURE PROOFS 20: spool, amend -/
theorem P_spool {M : mMem} (h : Inv M) (x v : Int) : PairI 55 144 [vi x, vi v] M := by
  have hc := h.1
  have hp := Pg0_of h.2.1
  by_cases c : (1 ≤ x ∧ x ≤ 3) ∧ 0 ≤ v ∧ v ≤ 99
  · have sp : 0 ≤ M 3 x ∧ M 3 x ≤ 99 := hc.2.2.2.2.2 x c.1.1 c.1.2
    have g2 : M 54 (35 + x) + 20 = M 3 x := hp.2.1 x c.1.1 c.1.2
    have a1 : mR3 10 55 [vr 0, vi x, vi v] (S0, M) (some (vi (M 3 x)), (S0, mupd M 3 x v)) :=
      ⟨⟨by decide, Nat.le_of_ble_eq_true rfl⟩, fun K hK => q_L_spool_0 hK x v M ⟨_, _, R_isColour 8 M x, br_f (fun z => b2_0.mp z c.1) (br_f (by omega) (br_t c.2.2 (mIn_i (by omega) (by omega) (mIn_i (by omega) (by omega) (mret_i rfl rfl)))))⟩⟩
    have e54 : mupd M 3 x v 54 = M 54 := mupd_ne _ _ _ (by decide)
    have i1 : w32 (w32 (36 + x) - 1) = 35 + x := by
      rw [w32_s (z := 36 + x) (by omega) (by omega), w32_s (by omega) (by omega)]
      omega
    have a2 : mR3 10 144 [vr 53, vi x, vi v] (S0, mupd M 3 x v) (some (vi (M 3 x)), (S0, mupd (mupd M 3 x v) 54 (35 + x) (v - 20))) := by
      refine ⟨⟨by decide, Nat.le_of_ble_eq_true rfl⟩, fun K hK => q_M_spool_0 hK x v _ ⟨_, _, R_mIsColour 7 _ x, br_f (fun z => b2_0.mp z c.1) ⟨_, _, R_in 8 _ _ _ _, br_f (fun z => b2_0.mp z (by omega)) (q_M_spool_25 hK x v 1 _ ?_)⟩⟩⟩
      rw [i1]
      refine ⟨_, _, R_puts 8 _ 1 (35 + x) v 20 (fun _ => ⟨by omega, by omega⟩), ?_⟩
      rw [if_pos (by decide), if_pos (by decide), e54, g2, w32_s (z := M 3 x) (by omega) (by omega), w32_s (by omega) (by omega)]
      exact mret_i rfl rfl
    refine ⟨_, _, _, a1, a2, ?_⟩
    have e : ∀ k : Nat, k ≠ 3 → k ≠ 54 → mupd (mupd M 3 x v) 54 (35 + x) (v - 20) k = M k := fun k h1 h2 => by rw [mupd_ne _ _ _ h2, mupd_ne _ _ _ h1]
    have f3 : mupd (mupd M 3 x v) 54 (35 + x) (v - 20) 3 = fup (M 3) x v := by rw [mupd_ne _ _ _ (by decide), mupd_at]
    have f54 : mupd (mupd M 3 x v) 54 (35 + x) (v - 20) 54 = fup (M 54) (35 + x) (v - 20) := by rw [mupd_at, e54]
    generalize mupd (mupd M 3 x v) 54 (35 + x) (v - 20) = m at e f3 f54
    refine Inv_c1 h (Cht_mk hc (e 2 (by decide) (by decide)) (e 7 (by decide) (by decide)) (e 8 (by decide) (by decide)) ?_ ?_ ?_ ?_ ?_) (Pg_of0 ?_) (fun k h1 h2 => e k (by omega) h2) (fun i h0 h1 => by rw [f54, fup_ne _ _ (by omega)])
    · rw [e 1 (by decide) (by decide)]
      exact hc.2.1
    · rw [e 1 (by decide) (by decide), e (1 + 3) (by decide) (by decide)]
      exact hc.2.2.1
    · rw [e 1 (by decide) (by decide)]
      exact hc.2.2.2.1
    · rw [e 1 (by decide) (by decide), e (1 + 4) (by decide) (by decide), e (1 + 5) (by decide) (by decide)]
      exact hc.2.2.2.2.1
    · show spOK (m 3)
      rw [f3]
      intro c' h0 h1
      have g : 0 ≤ M 3 c' ∧ M 3 c' ≤ 99 := hc.2.2.2.2.2 c' h0 h1
      unfold fup
      split <;> omega
    · unfold Pg0
      rw [f54, f3, e 1 (by decide) (by decide), e 2 (by decide) (by decide), e 4 (by decide) (by decide), e 5 (by decide) (by decide), e 6 (by decide) (by decide)]
      refine ⟨fun i h0 h1 => ?_, fun i h0 h1 => ?_, ?_, fun l y h0 h1 h2 h3 => ?_, ?_, fun i h0 h1 => ?_⟩
      · rw [fup_ne _ _ (by omega)]
        exact hp.1 i h0 h1
      · have g := hp.2.1 i h0 h1
        unfold fup
        split <;> split <;> omega
      · rw [fup_ne _ _ (by omega)]
        exact hp.2.2.1
      · rw [fup_ne _ _ (by omega)]
        exact hp.2.2.2.1 l y h0 h1 h2 h3
      · rw [fup_ne _ _ (by omega)]
        exact hp.2.2.2.2.1
      · rw [fup_ne _ _ (by omega), fup_ne _ _ (by omega), fup_ne _ _ (by omega)]
        exact hp.2.2.2.2.2 i h0 h1
  · refine ⟨-1, M, M, ⟨⟨by decide, Nat.le_of_ble_eq_true rfl⟩, fun K hK => q_L_spool_0 hK x v M ⟨_, _, R_isColour 8 M x, ⟨fun _ => mret_i rfl rfl, fun q => ⟨fun _ => mret_i rfl rfl, fun q2 => br_f (fun q3 => c ⟨Decidable.not_not.mp (fun z => q (b2_f z)), by omega⟩) (mret_i rfl rfl)⟩⟩⟩⟩, ⟨⟨by decide, Nat.le_of_ble_eq_true rfl⟩, fun K hK => ?_⟩, h⟩
    have f25 : K 25 [(1, vi x), (2, vi v)] [vi 0, vr 53] (S0, M) := by
      refine q_M_spool_25 hK x v 0 M ⟨_, _, R_puts 8 _ 0 _ v 20 (fun z => absurd rfl z), ?_⟩
      rw [if_neg (by decide), if_neg (by decide)]
      exact mret_i rfl rfl
    refine q_M_spool_0 hK x v M ⟨_, _, R_mIsColour 7 _ x, ⟨fun _ => f25, fun q => ⟨_, _, R_in 8 _ _ _ _, br_t (b2_f (fun z => c ⟨Decidable.not_not.mp (fun z => q (b2_f z)), z⟩)) f25⟩⟩⟩
theorem P_amend {M : mMem} (h : Inv M) (l x v : Int) : PairI 54 143 [vi l, vi x, vi v] M := by
  have hc := h.1
  have hp := Pg0_of h.2.1
  have n0 : 0 ≤ M 1 5 ∧ M 1 5 ≤ 5 := hc.2.1
  have p3 : M 54 39 = M 1 5 := hp.2.2.1
  have hl := hc.2.2.1
  by_cases c : (0 ≤ l ∧ l < M 1 5) ∧ ((x = 0 ∧ 0 ≤ v ∧ v ≤ 3) ∨ (x = 1 ∧ 1 ≤ v ∧ v ≤ 3) ∨ (x = 2 ∧ 1 ≤ v ∧ v ≤ 3) ∨ (x = 3 ∧ 1 ≤ v ∧ v ≤ 9))
  · have i0 : w32 (w32 (l * 4) + x) = 4 * l + x := by
      rw [w32_s (z := l * 4) (by omega) (by omega), w32_s (by omega) (by omega)]
      omega
    have i1 : w32 (w32 (40 + w32 (5 * x)) + l) = 40 + 5 * x + l := by rw [w32_s (z := 5 * x) (by omega) (by omega), w32_s (z := 40 + 5 * x) (by omega) (by omega), w32_s (by omega) (by omega)]
    have g4 : M 54 (40 + 5 * x + l) = M 4 (4 * l + x) := hp.2.2.2.1 l x c.1.1 c.1.2 (by omega) (by omega)
    have r4 : 0 ≤ M 4 (4 * l + x) ∧ M 4 (4 * l + x) ≤ 9 := by
      have g : (0 ≤ M 4 (4 * l) ∧ M 4 (4 * l) ≤ 3) ∧ (1 ≤ M 4 (4 * l + 1) ∧ M 4 (4 * l + 1) ≤ 3) ∧ (1 ≤ M 4 (4 * l + 2) ∧ M 4 (4 * l + 2) ≤ 3) ∧ 1 ≤ M 4 (4 * l + 3) ∧ M 4 (4 * l + 3) ≤ 9 := hl l c.1.1 c.1.2
      rcases c.2 with z | z | z | z
      · rw [z.1, Int.add_zero]
        omega
      · rw [z.1]
        omega
      · rw [z.1]
        omega
      · rw [z.1]
        omega
    have a1 : mR3 10 54 [vr 0, vi l, vi x, vi v] (S0, M) (some (vi (M 4 (4 * l + x))), (S0, mupd M 4 (4 * l + x) v)) := by
      refine ⟨⟨by decide, Nat.le_of_ble_eq_true rfl⟩, fun K hK => q_L_amend_0 hK l x v M ⟨_, _, R_isLaw 8 M l, br_f (fun z => b2_0.mp z c.1) ⟨_, _, R_isLawPart 7 M x v, br_t (b2_n0.mpr c.2) ?_⟩⟩⟩
      rw [i0]
      exact mIn_i (by omega) (by omega) (mIn_i (by omega) (by omega) (mret_i rfl rfl))
    have e54 : mupd M 4 (4 * l + x) v 54 = M 54 := mupd_ne _ _ _ (by decide)
    have e : ∀ k : Nat, k ≠ 4 → k ≠ 54 → mupd (mupd M 4 (4 * l + x) v) 54 (40 + 5 * x + l) v k = M k := fun k h1 h2 => by rw [mupd_ne _ _ _ h2, mupd_ne _ _ _ h1]
    have f4 : mupd (mupd M 4 (4 * l + x) v) 54 (40 + 5 * x + l) v 4 = fup (M 4) (4 * l + x) v := by rw [mupd_ne _ _ _ (by decide), mupd_at]
    have f54 : mupd (mupd M 4 (4 * l + x) v) 54 (40 + 5 * x + l) v 54 = fup (M 54) (40 + 5 * x + l) v := by rw [mupd_at, e54]
    generalize mupd M 4 (4 * l + x) v = m0 at a1 e54 e f4 f54
    have a2 : mR3 10 143 [vr 53, vi l, vi x, vi v] (S0, m0) (some (vi (M 4 (4 * l + x))), (S0, mupd m0 54 (40 + 5 * x + l) v)) := by
      refine ⟨⟨by decide, Nat.le_of_ble_eq_true rfl⟩, fun K hK => ?_⟩
      have k70 : K 70 [(1, vi l), (2, vi x), (3, vi v)] [vi 1, vr 53] (S0, m0) := by
        refine q_M_amend_70 hK l x v 1 m0 ?_
        rw [i1]
        refine ⟨_, _, R_puts 8 m0 1 (40 + 5 * x + l) v 0 (fun _ => ⟨by omega, by omega⟩), ?_⟩
        rw [if_pos (by decide), if_pos (by decide), e54, g4, Int.add_zero, Int.sub_zero, w32_s (z := M 4 (4 * l + x)) (by omega) (by omega), w32_s (by omega) (by omega)]
        exact mret_i rfl rfl
      have k37 : K 37 [(0, vr 53), (1, vi l), (2, vi x), (3, vi v)] [vi 1] (S0, m0) := by
        refine q_M_amend_37 hK l x v 1 m0 ⟨_, _, R_mIsLaw 7 m0 l (by rw [e54, p3]; exact n0), br_f (fun z => b2_0.mp z (by rw [e54, p3]; exact c.1)) ⟨_, _, R_in 8 _ _ _ _, br_f (fun z => b2_0.mp z (by omega)) (br_f (by decide) k70)⟩⟩
      refine q_M_amend_0 hK l x v m0 ⟨fun q => ⟨fun q2 => ⟨_, _, R_mIsColour 7 m0 v, ?_⟩, fun q2 => ⟨_, _, R_in 8 _ _ _ _, ?_⟩⟩, fun q => ⟨_, _, R_in 8 _ _ _ _, ?_⟩⟩
      · rw [b2_t (by omega)]
        exact k37
      · rw [b2_t (by omega)]
        exact k37
      · rw [b2_t (by omega)]
        exact k37
    refine ⟨_, _, _, a1, a2, ?_⟩
    generalize mupd m0 54 (40 + 5 * x + l) v = m at e f4 f54
    refine Inv_c1 h (Cht_mk hc (e 2 (by decide) (by decide)) (e 7 (by decide) (by decide)) (e 8 (by decide) (by decide)) ?_ ?_ ?_ ?_ ?_) (Pg_of0 ?_) (fun k h1 h2 => e k (by omega) h2) (fun i h0 h1 => by rw [f54, fup_ne _ _ (by omega)])
    · rw [e 1 (by decide) (by decide)]
      exact hc.2.1
    · show lawOK (m 4) (m 1 5)
      rw [e 1 (by decide) (by decide), f4]
      intro l' h0 h1
      have g : (0 ≤ M 4 (4 * l') ∧ M 4 (4 * l') ≤ 3) ∧ (1 ≤ M 4 (4 * l' + 1) ∧ M 4 (4 * l' + 1) ≤ 3) ∧ (1 ≤ M 4 (4 * l' + 2) ∧ M 4 (4 * l' + 2) ≤ 3) ∧ 1 ≤ M 4 (4 * l' + 3) ∧ M 4 (4 * l' + 3) ≤ 9 := hl l' h0 h1
      unfold fup
      refine ⟨?_, ?_, ?_, ?_⟩
      all_goals (split <;> omega)
    · rw [e 1 (by decide) (by decide)]
      exact hc.2.2.2.1
    · rw [e 1 (by decide) (by decide), e (1 + 4) (by decide) (by decide), e (1 + 5) (by decide) (by decide)]
      exact hc.2.2.2.2.1
    · rw [e (1 + 2) (by decide) (by decide)]
      exact hc.2.2.2.2.2
    · unfold Pg0
      rw [f54, f4, e 1 (by decide) (by decide), e 2 (by decide) (by decide), e 3 (by decide) (by decide), e 5 (by decide) (by decide), e 6 (by decide) (by decide)]
      refine ⟨fun i h0 h1 => ?_, fun i h0 h1 => ?_, ?_, fun l' y h0 h1 h2 h3 => ?_, ?_, fun i h0 h1 => ?_⟩
      · rw [fup_ne _ _ (by omega)]
        exact hp.1 i h0 h1
      · rw [fup_ne _ _ (by omega)]
        exact hp.2.1 i h0 h1
      · rw [fup_ne _ _ (by omega)]
        exact hp.2.2.1
      · have g := hp.2.2.2.1 l' y h0 h1 h2 h3
        unfold fup
        split <;> split <;> omega
      · rw [fup_ne _ _ (by omega)]
        exact hp.2.2.2.2.1
      · rw [fup_ne _ _ (by omega), fup_ne _ _ (by omega), fup_ne _ _ (by omega)]
        exact hp.2.2.2.2.2 i h0 h1
  · refine ⟨-1, M, M, ⟨⟨by decide, Nat.le_of_ble_eq_true rfl⟩, fun K hK => q_L_amend_0 hK l x v M ⟨_, _, R_isLaw 8 M l, ⟨fun _ => mret_i rfl rfl, fun q => ⟨_, _, R_isLawPart 7 M x v, br_f (fun q2 => c ⟨Decidable.not_not.mp (fun z => q (b2_f z)), b2_n0.mp q2⟩) (mret_i rfl rfl)⟩⟩⟩⟩, ⟨⟨by decide, Nat.le_of_ble_eq_true rfl⟩, fun K hK => ?_⟩, h⟩
    have f70 : K 70 [(1, vi l), (2, vi x), (3, vi v)] [vi 0, vr 53] (S0, M) := by
      refine q_M_amend_70 hK l x v 0 M ⟨_, _, R_puts 8 M 0 _ v 0 (fun z => absurd rfl z), ?_⟩
      rw [if_neg (by decide), if_neg (by decide)]
      exact mret_i rfl rfl
    have k37 : ∀ s : Int, (s = 0 ∨ ¬ ((0 ≤ l ∧ l < M 1 5) ∧ 0 ≤ x ∧ x ≤ 3)) → K 37 [(0, vr 53), (1, vi l), (2, vi x), (3, vi v)] [vi s] (S0, M) := by
      intro s hs
      refine q_M_amend_37 hK l x v s M ⟨_, _, R_mIsLaw 7 M l (by rw [p3]; exact n0), ⟨fun _ => f70, fun q => ⟨_, _, R_in 8 _ _ _ _, ⟨fun _ => f70, fun q2 => br_t ?_ f70⟩⟩⟩⟩
      have q := b2_n0.mp q
      have q2 := b2_n0.mp q2
      rw [p3] at q
      rcases hs with hs | hs
      · exact hs
      · exact absurd ⟨q, q2⟩ hs
    refine q_M_amend_0 hK l x v M ⟨fun q => ⟨fun q2 => ⟨_, _, R_mIsColour 7 M v, k37 _ ?_⟩, fun q2 => ⟨_, _, R_in 8 _ _ _ _, k37 _ ?_⟩⟩, fun q => ⟨_, _, R_in 8 _ _ _ _, k37 _ ?_⟩⟩
    · rw [b2_0]
      omega
    · rw [b2_0]
      omega
    · rw [b2_0]
      omega
end
