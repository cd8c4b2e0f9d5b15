/-! PURE PROOFS 10: the other's pages -/
def pg (M : mMem) (p : Int) : Int → Int := fun i => M 54 (p + i)
def pgL (M : mMem) (p : Int) : Int → Int := fun j => M 54 (p + 40 + 5 * (j % 4) + j / 4)
theorem pgL_at (M : mMem) (p l x : Int) (h0 : 0 ≤ x) (h1 : x < 4) : pgL M p (4 * l + x) = M 54 (p + 40 + 5 * x + l) := by
  show M 54 (p + 40 + 5 * ((4 * l + x) % 4) + (4 * l + x) / 4) = _
  congr 1
  omega
theorem pgL_0 (M : mMem) (p l : Int) : pgL M p (4 * l) = M 54 (p + 40 + l) := by
  show M 54 (p + 40 + 5 * ((4 * l) % 4) + (4 * l) / 4) = _
  congr 1
  omega
theorem sm_rng {g : Nat → Int} (h : ∀ k, 0 ≤ g k ∧ g k ≤ 1) : ∀ n : Nat, 0 ≤ sm g n ∧ sm g n ≤ n
  | 0 => by
    have h : sm g 0 = 0 := rfl
    omega
  | n + 1 => by
    have h1 := sm_rng h n
    have h2 := h n
    have h4 : sm g (n + 1) = sm g n + g n := rfl
    omega
section
variable (d : Nat) (M : mMem)
theorem R_mIsColour (c : Int) : mR3 (d + 2) 130 [vi c] (S0, M) (some (vi (b2 (1 ≤ c ∧ c ≤ 3))), (S0, M)) := by
  refine ⟨⟨by decide, Nat.le_of_ble_eq_true rfl⟩, fun K hK => q_M_isColour_0 hK c M ⟨_, _, R_in d M _ _ _, mBo_i (b2_01 _) (mret_i (b2_iff ?_) rfl)⟩⟩
  omega
theorem R_mIsLaw (l : Int) (h : 0 ≤ M 54 39 ∧ M 54 39 ≤ 5) : mR3 (d + 2) 128 [vr 53, vi l] (S0, M) (some (vi (b2 (0 ≤ l ∧ l < M 54 39))), (S0, M)) := by
  refine ⟨⟨by decide, Nat.le_of_ble_eq_true rfl⟩, fun K hK => q_M_isLaw_0 hK l M ⟨_, _, R_in d M _ _ _, mBo_i (b2_01 _) (mret_i (b2_iff ?_) rfl)⟩⟩
  rw [w32_s (by omega) (by omega)]
  omega
theorem R_mIsCell (x y : Int) : mR3 (d + 2) 129 [vi x, vi y] (S0, M) (some (vi (b2 (0 ≤ x ∧ x < 6 ∧ 0 ≤ y ∧ y < 6))), (S0, M)) := by
  refine ⟨⟨by decide, Nat.le_of_ble_eq_true rfl⟩, fun K hK => q_M_isCell_0 hK x y M ⟨_, _, R_in d M _ _ _, ⟨fun h => ?_, fun h => ⟨_, _, R_in d M _ _ _, ⟨fun h2 => ?_, fun h2 => ?_⟩⟩⟩⟩⟩
  · have h := b2_0.mp h
    exact mret_i (b2_f (by omega)).symm rfl
  · have h := b2_n0.mp h
    have h2 := b2_0.mp h2
    exact mret_i (b2_f (by omega)).symm rfl
  · have h := b2_n0.mp h
    have h2 := b2_n0.mp h2
    exact mret_i (b2_t (by omega)).symm rfl
theorem R_besideOn (p a c : Int) (hp : 0 ≤ p ∧ p ≤ 425) : mR3 (d + 1) 131 [vr 53, vi p, vi a, vi c] (S0, M) (some (vi (cB (pg M p) a c)), (S0, M)) := by
  refine ⟨⟨by decide, Nat.le_of_ble_eq_true rfl⟩, fun K hK => q_M_besideOn_0 hK p a c M ?_⟩
  have loop : ∀ (j k : Nat), k + j = 30 → K 6 [(0, vr 53), (1, vi p), (2, vi a), (3, vi c), (4, vi (sm (fun k => b2 (pg M p (k : Nat) = a ∧ pg M p ((k : Nat) + 6) = c)) k)), (5, vi (k : Int))] [] (S0, M) := by
    intro j
    induction j with
    | zero =>
      intro k hk
      refine q_M_besideOn_6 hK p a c _ _ M (br_t (by omega) (mret_i ?_ rfl))
      rw [show k = 30 by omega]
      rfl
    | succ j ih =>
      intro k hk
      have h1 := ih (k + 1) (by omega)
      have e4 : w32 ((k : Int) + 1) = ((k + 1 : Nat) : Int) := by rw [w32_s (by omega) (by omega)]; omega
      have e1 : w32 (p + (k : Int)) = p + (k : Int) := w32_s (by omega) (by omega)
      have e2 : w32 (p + (k : Int) + 6) = p + ((k : Int) + 6) := by rw [w32_s (by omega) (by omega)]; omega
      have r0 := sm_rng (g := fun k : Nat => b2 (pg M p (k : Nat) = a ∧ pg M p ((k : Nat) + 6) = c)) (fun k => b2_le _) k
      have e5 : sm (fun k : Nat => b2 (pg M p (k : Nat) = a ∧ pg M p ((k : Nat) + 6) = c)) (k + 1) = sm (fun k : Nat => b2 (pg M p (k : Nat) = a ∧ pg M p ((k : Nat) + 6) = c)) k + b2 (pg M p (k : Nat) = a ∧ pg M p ((k : Nat) + 6) = c) := rfl
      rw [e5] at h1
      generalize sm (fun k : Nat => b2 (pg M p (k : Nat) = a ∧ pg M p ((k : Nat) + 6) = c)) k = s at h1 r0 ⊢
      refine q_M_besideOn_6 hK p a c _ _ M (br_f (by omega) ?_)
      rw [e4, e1, e2, w32_s (z := s + 0) (by omega) (by omega), w32_s (z := s + 1) (by omega) (by omega)]
      refine mIn_i (by omega) (by omega) ⟨fun q => ?_, fun q => mIn_i (by omega) (by omega) ⟨fun q2 => ?_, fun q2 => ?_⟩⟩
      · rw [b2_f (fun z => q z.1)] at h1
        exact h1
      · rw [b2_f (fun z => q2 z.2)] at h1
        exact h1
      · rw [b2_t ⟨Decidable.not_not.mp q, Decidable.not_not.mp q2⟩] at h1
        exact h1
  exact loop 30 0 (by omega)
theorem R_aboveOn (p a c : Int) (hp : 0 ≤ p ∧ p ≤ 425) : mR3 (d + 1) 132 [vr 53, vi p, vi a, vi c] (S0, M) (some (vi (cA (pg M p) a c)), (S0, M)) := by
  refine ⟨⟨by decide, Nat.le_of_ble_eq_true rfl⟩, fun K hK => q_M_aboveOn_0 hK p a c M ?_⟩
  have loop : ∀ (j k : Nat), k + j = 36 → K 6 [(0, vr 53), (1, vi p), (2, vi a), (3, vi c), (4, vi (sm (fun k => b2 ((k : Int) % 6 < 5 ∧ pg M p (k : Nat) = a ∧ pg M p ((k : Nat) + 1) = c)) k)), (5, vi (k : Int))] [] (S0, M) := by
    intro j
    induction j with
    | zero =>
      intro k hk
      refine q_M_aboveOn_6 hK p a c _ _ M (br_t (by omega) (mret_i ?_ rfl))
      rw [show k = 36 by omega]
      rfl
    | succ j ih =>
      intro k hk
      have h1 := ih (k + 1) (by omega)
      have e4 : w32 ((k : Int) + 1) = ((k + 1 : Nat) : Int) := by rw [w32_s (by omega) (by omega)]; omega
      have e1 : w32 (p + (k : Int)) = p + (k : Int) := w32_s (by omega) (by omega)
      have e2 : w32 (p + (k : Int) + 1) = p + ((k : Int) + 1) := by rw [w32_s (by omega) (by omega)]; omega
      have e3 : jrem (k : Int) 6 = (k : Int) % 6 := jrem_nn (by omega)
      have r0 := sm_rng (g := fun k : Nat => b2 ((k : Int) % 6 < 5 ∧ pg M p (k : Nat) = a ∧ pg M p ((k : Nat) + 1) = c)) (fun k => b2_le _) k
      have e5 : sm (fun k : Nat => b2 ((k : Int) % 6 < 5 ∧ pg M p (k : Nat) = a ∧ pg M p ((k : Nat) + 1) = c)) (k + 1) = sm (fun k : Nat => b2 ((k : Int) % 6 < 5 ∧ pg M p (k : Nat) = a ∧ pg M p ((k : Nat) + 1) = c)) k + b2 ((k : Int) % 6 < 5 ∧ pg M p (k : Nat) = a ∧ pg M p ((k : Nat) + 1) = c) := rfl
      rw [e5] at h1
      generalize sm (fun k : Nat => b2 ((k : Int) % 6 < 5 ∧ pg M p (k : Nat) = a ∧ pg M p ((k : Nat) + 1) = c)) k = s at h1 r0 ⊢
      refine q_M_aboveOn_6 hK p a c _ _ M (br_f (by omega) ?_)
      rw [e4, e1, e2, e3, w32_s (z := s + 0) (by omega) (by omega), w32_s (z := s + 1) (by omega) (by omega)]
      refine ⟨fun q0 => ?_, fun q0 => mIn_i (by omega) (by omega) ⟨fun q => ?_, fun q => mIn_i (by omega) (by omega) ⟨fun q2 => ?_, fun q2 => ?_⟩⟩⟩
      · rw [b2_f (fun z => absurd z.1 (by omega))] at h1
        exact h1
      · rw [b2_f (fun z => q z.2.1)] at h1
        exact h1
      · rw [b2_f (fun z => q2 z.2.2)] at h1
        exact h1
      · rw [b2_t ⟨by omega, Decidable.not_not.mp q, Decidable.not_not.mp q2⟩] at h1
        exact h1
  exact loop 36 0 (by omega)
theorem R_holesOn (p : Int) (hp : 0 ≤ p ∧ p ≤ 425) : mR3 (d + 1) 136 [vr 53, vi p] (S0, M) (some (vi (cO (pg M p) 4 36)), (S0, M)) := by
  refine ⟨⟨by decide, Nat.le_of_ble_eq_true rfl⟩, fun K hK => q_M_holesOn_0 hK p M ?_⟩
  have loop : ∀ (j k : Nat), k + j = 36 → K 4 [(0, vr 53), (1, vi p), (2, vi (cO (pg M p) 4 k)), (3, vi (k : Int))] [] (S0, M) := by
    intro j
    induction j with
    | zero =>
      intro k hk
      refine q_M_holesOn_4 hK p _ _ M (br_t (by omega) (mret_i ?_ rfl))
      rw [show k = 36 by omega]
    | succ j ih =>
      intro k hk
      have h1 := ih (k + 1) (by omega)
      have e4 : w32 ((k : Int) + 1) = ((k + 1 : Nat) : Int) := by rw [w32_s (by omega) (by omega)]; omega
      have e1 : w32 (p + (k : Int)) = p + (k : Int) := w32_s (by omega) (by omega)
      have r0 := cO_rng (pg M p) 4 k
      have e5 : cO (pg M p) 4 (k + 1) = cO (pg M p) 4 k + b2 (pg M p (k : Nat) = 4) := rfl
      rw [e5] at h1
      generalize cO (pg M p) 4 k = s at h1 r0 ⊢
      refine q_M_holesOn_4 hK p _ _ M (br_f (by omega) ?_)
      rw [e4, e1, w32_s (z := s + 0) (by omega) (by omega), w32_s (z := s + 1) (by omega) (by omega)]
      refine mIn_i (by omega) (by omega) ⟨fun q => ?_, fun q => ?_⟩
      · rw [b2_f (c := pg M p (k : Nat) = 4) q] at h1
        exact h1
      · rw [b2_t (c := pg M p (k : Nat) = 4) (Decidable.not_not.mp q)] at h1
        exact h1
  exact loop 36 0 (by omega)
theorem R_copies (s t : Int) (hs : 0 ≤ s ∧ s ≤ 425) (ht : 0 ≤ t ∧ t ≤ 425) (hd : s + 85 ≤ t ∨ t + 85 ≤ s) : mR3 (d + 1) 154 [vr 53, vi s, vi t] (S0, M) (none, (S0, mcpy M 54 s 54 t 85)) := by
  refine ⟨⟨by decide, Nat.le_of_ble_eq_true rfl⟩, fun K hK => q_M_copies_0 hK s t M ?_⟩
  have step : ∀ k : Nat, k < 85 → mupd (mcpy M 54 s 54 t k) 54 (t + k) (mcpy M 54 s 54 t k 54 (s + k)) = mcpy M 54 s 54 t ((k + 1 : Nat) : Int) := by
    intro k hk
    funext k' i
    unfold mupd mcpy
    rw [if_neg (show ¬ ((54 : Nat) = 54 ∧ t ≤ s + (k : Int) ∧ s + (k : Int) < t + k) by omega)]
    by_cases h1 : k' = 54
    · by_cases h2 : i = t + k
      · rw [if_pos ⟨h1, h2⟩, if_pos ⟨h1, by omega, by omega⟩]
        congr 1
        omega
      · rw [if_neg (fun q => h2 q.2)]
        by_cases h3 : t ≤ i ∧ i < t + k
        · rw [if_pos ⟨h1, h3⟩, if_pos ⟨h1, by omega, by omega⟩]
        · rw [if_neg (fun q => h3 q.2), if_neg (fun q => h3 ⟨q.2.1, by omega⟩)]
    · rw [if_neg (fun q => h1 q.1), if_neg (fun q => h1 q.1), if_neg (fun q => h1 q.1)]
  have m0 : mcpy M 54 s 54 t ((0 : Nat) : Int) = M := by
    funext k' i
    unfold mcpy
    rw [if_neg (by omega)]
  have loop : ∀ (j k : Nat), k + j = 85 → K 2 [(0, vr 53), (1, vi s), (2, vi t), (3, vi (k : Int))] [] (S0, mcpy M 54 s 54 t (k : Int)) := by
    intro j
    induction j with
    | zero =>
      intro k hk
      refine q_M_copies_2 hK s t _ _ (br_t (by omega) (mret_n ?_))
      rw [show k = 85 by omega]
      rfl
    | succ j ih =>
      intro k hk
      have h1 := ih (k + 1) (by omega)
      rw [← step k (by omega)] at h1
      have e4 : w32 ((k : Int) + 1) = ((k + 1 : Nat) : Int) := by rw [w32_s (by omega) (by omega)]; omega
      have e1 : w32 (s + (k : Int)) = s + (k : Int) := w32_s (by omega) (by omega)
      have e2 : w32 (t + (k : Int)) = t + (k : Int) := w32_s (by omega) (by omega)
      refine q_M_copies_2 hK s t _ _ (br_f (by omega) ?_)
      rw [e4, e1, e2]
      exact mIn_i (by omega) (by omega) (mIn_i (by omega) (by omega) h1)
  have h1 := loop 85 0 (by omega)
  rw [m0] at h1
  exact h1
end
