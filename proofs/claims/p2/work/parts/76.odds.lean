/-! PURE PROOFS 53: odds, least terms -/
theorem gcd_st {g l : Int} (hg : 0 ≤ g) (hl : 0 ≤ l) : Int.gcd l (g % l) = Int.gcd g l := by
  obtain ⟨a, rfl⟩ := Int.eq_ofNat_of_zero_le hg
  obtain ⟨b, rfl⟩ := Int.eq_ofNat_of_zero_le hl
  rw [← Int.natCast_emod]
  show Nat.gcd b (a % b) = Nat.gcd a b
  rw [Nat.gcd_comm a b, Nat.gcd_rec b a, Nat.gcd_comm]
theorem gcd_z {g : Int} (h : 0 ≤ g) : (Int.gcd g 0 : Int) = g := by
  rw [Int.gcd_zero_right]
  omega
theorem half {l r : Int} (h0 : 0 < r) (h1 : r < l) : 2 * (l % r) < l := by
  have a := Int.emod_lt_of_pos l h0
  have b := Int.mul_ediv_add_emod l r
  have c : 1 ≤ l / r := Int.le_ediv_of_mul_le h0 (by omega)
  have d : r * 1 ≤ r * (l / r) := Int.mul_le_mul_of_nonneg_left c (by omega)
  omega
theorem jlrem_nn {a b : Int} (h0 : 0 ≤ a) : jlrem a b = a % b := Int.tmod_eq_emod_of_nonneg h0
theorem L_gcd (d : Nat) (m : mMem) {a b : Int} (ha : 0 ≤ a) (ha2 : a < 2 ^ 60) (hb : 0 < b) : mR3 (d + 1) 108 [vl a, vl b] (S0, m) (some (vl ((Int.gcd b a : Nat) : Int)), (S0, m)) := by
  refine ⟨⟨by decide, Nat.le_of_ble_eq_true rfl⟩, fun K hK => q_L_greatestDivisor_0 hK a b m ?_⟩
  have fin : ∀ (g i : Int), 0 < g → ((Int.gcd b a : Nat) : Int) = g → i < 200 → K 9 [(4, vl g), (6, vl 0), (8, vi i)] [] (S0, m) := by
    intro g i h0 h1 h2
    refine q_L_greatestDivisor_9 hK g 0 i m (br_f (by omega) (br_t (by decide) (mret_l ?_ rfl)))
    rw [h1]
    split <;> omega
  have loop : ∀ (k : Nat) (g l i : Int), 0 < g → 0 ≤ l → l < 2 ^ k → 0 ≤ i → i + 2 * k < 200 → ((Int.gcd b a : Nat) : Int) = ((Int.gcd g l : Nat) : Int) → K 9 [(4, vl g), (6, vl l), (8, vi i)] [] (S0, m) := by
    intro k
    induction k with
    | zero =>
      intro g l i h0 h1 h2 h3 h4 h5
      have e : l = 0 := by
        have : (2 : Int) ^ 0 = 1 := rfl
        omega
      rw [e] at h5 ⊢
      exact fin g i h0 (by rw [h5, gcd_z (by omega)]) (by omega)
    | succ k ih =>
      intro g l i h0 h1 h2 h3 h4 h5
      by_cases z : l = 0
      · rw [z] at h5 ⊢
        exact fin g i h0 (by rw [h5, gcd_z (by omega)]) (by omega)
      · have p2 : (2 : Int) ^ (k + 1) = 2 ^ k * 2 := Int.pow_succ 2 k
        have lc : ¬ jlcmp l ((0 : Nat) : Int) ≤ 0 := by
          have := jlcmp_gt (a := l) (b := ((0 : Nat) : Int))
          omega
        refine q_L_greatestDivisor_9 hK g l i m (br_f (by omega) (br_f lc ⟨z, ?_⟩))
        rw [jlrem_nn (by omega), w32_s (z := i + 1) (by omega) (by omega)]
        have r0 := Int.emod_nonneg g z
        have r1 := Int.emod_lt_of_pos g (show 0 < l by omega)
        have h6 := gcd_st (g := g) (l := l) (by omega) h1
        rw [← h6] at h5
        generalize g % l = r at r0 r1 h5
        by_cases y : r = 0
        · rw [y] at h5 ⊢
          exact fin l (i + 1) (by omega) (by rw [h5, gcd_z h1]) (by omega)
        · have lc2 : ¬ jlcmp r ((0 : Nat) : Int) ≤ 0 := by
            have := jlcmp_gt (a := r) (b := ((0 : Nat) : Int))
            omega
          refine q_L_greatestDivisor_9 hK l r (i + 1) m (br_f (by omega) (br_f lc2 ⟨y, ?_⟩))
          rw [jlrem_nn h1, w32_s (z := i + 1 + 1) (by omega) (by omega)]
          have hf := half (l := l) (r := r) (by omega) r1
          have r2 := Int.emod_nonneg l y
          have h7 := gcd_st (g := l) (l := r) h1 r0
          rw [← h7] at h5
          exact ih r (l % r) (i + 1 + 1) (by omega) r2 (by omega) (by omega) (by omega) h5
  exact loop 60 b a 0 hb ha ha2 (by omega) (by omega) rfl
theorem M_low (d : Nat) (m : mMem) {u w x : Int} (hu : 0 ≤ u) (hw : 0 < w) : mR3 (d + 1) 167 [vl u, vl w, vi x] (S0, m) (some (vl (jldiv (if x ≠ 0 then w else u) ((Int.gcd w u : Nat) : Int))), (S0, m)) := by
  refine ⟨⟨by decide, Nat.le_of_ble_eq_true rfl⟩, fun K hK => q_M_lowest_0 hK u w x m ?_⟩
  have loop : ∀ (n : Nat) (a b : Int), 0 ≤ a → 0 ≤ b → b < n → (0 < a ∨ 0 < b) → Int.gcd a b = Int.gcd w u → K 6 [(0, vl u), (2, vl w), (4, vi x), (5, vl a), (7, vl b)] [] (S0, m) := by
    intro n
    induction n with
    | zero =>
      intro a b _ h1 h2 _ _
      exact absurd h2 (by omega)
    | succ n ih =>
      intro a b h0 h1 h2 h3 h4
      by_cases z : b = 0
      · rw [z] at h4 ⊢
        have e : ((Int.gcd w u : Nat) : Int) = a := by rw [← h4, gcd_z h0]
        refine q_M_lowest_6 hK u w x a 0 m (br_t (by decide) ⟨fun q => ⟨by omega, mret_l ?_ rfl⟩, fun q => ⟨by omega, mret_l ?_ rfl⟩⟩)
        · rw [if_pos q, e]
        · rw [if_neg q, e]
      · have lc : ¬ jlcmp b ((0 : Nat) : Int) = 0 := by
          have := jlcmp_eq (a := b) (b := ((0 : Nat) : Int))
          omega
        refine q_M_lowest_6 hK u w x a b m (br_f lc ⟨z, ?_⟩)
        rw [jlrem_nn h0]
        have r0 := Int.emod_nonneg a z
        have r1 := Int.emod_lt_of_pos a (show 0 < b by omega)
        exact ih b (a % b) h1 r0 (by omega) (Or.inl (by omega)) (by rw [gcd_st h0 h1, h4])
  exact loop (w.toNat + 1) u w hu (by omega) (by omega) (Or.inr hw) (Int.gcd_comm u w)
def beW : Nat → Int
  | 0 => 1
  | n + 1 => w64 (beW n * 10)
theorem beW_rng : ∀ n : Nat, n < 9 → 1 ≤ beW n ∧ beW n ≤ 100000000 := by decide +kernel
theorem L_frac (d : Nat) {m : mMem} {cn : Nat} {u x : Int} (h : m 0 15 = cn) (h8 : cn ≤ 8) (hu : 0 ≤ u) (hu2 : u < 2 ^ 60) : mR3 (d + 2) 107 [vr 0, vl u, vi x] (S0, m) (some (vl (jldiv (if x ≠ 0 then beW cn else u) ((Int.gcd (beW cn) u : Nat) : Int))), (S0, m)) := by
  refine ⟨⟨by decide, Nat.le_of_ble_eq_true rfl⟩, fun K hK => q_L_fractionPart_0 hK u x m ?_⟩
  have loop : ∀ (j i : Nat), i + j = cn → K 6 [(0, vr 0), (1, vl u), (3, vi x), (4, vl (beW i)), (6, vi (i : Int))] [] (S0, m) := by
    intro j
    induction j with
    | zero =>
      intro i hi
      rw [show i = cn by omega]
      have b := beW_rng cn (by omega)
      have g : ((Int.gcd (beW cn) u : Nat) : Int) ≠ 0 := by
        intro q
        have q2 : Int.gcd (beW cn) u = 0 := by omega
        have q3 := (Int.gcd_eq_zero_iff.mp q2).1
        omega
      refine q_L_fractionPart_6 hK _ _ _ _ m (br_t (by rw [h]; exact Int.le_refl _) ⟨_, _, L_gcd d m hu hu2 (by omega), ⟨fun q => ⟨g, mret_l ?_ rfl⟩, fun q => ⟨g, mret_l ?_ rfl⟩⟩⟩)
      · rw [if_pos q]
      · rw [if_neg q]
    | succ j ih =>
      intro i hi
      have ew : w32 ((i : Int) + 1) = ((i + 1 : Nat) : Int) := by rw [w32_s (by omega) (by omega)]; omega
      have lt : ¬ (cn : Int) ≤ (i : Int) := by omega
      refine q_L_fractionPart_6 hK _ _ _ _ m (br_f (by rw [h]; exact lt) ?_)
      rw [ew]
      exact ih (i + 1) (by omega)
  exact loop cn 0 (by omega)
def weF (v q : Int) : Nat → Int
  | 0 => 1
  | i + 1 => w64 (weF v q i * (if jand (jshr q (i : Nat)) 1 ≠ 1 then w32 (10 - v) else v))
theorem weF_s (v q : Int) (i : Nat) : weF v q (i + 1) = w64 (weF v q i * (if jand (jshr q (i : Nat)) 1 ≠ 1 then w32 (10 - v) else v)) := rfl
theorem p10 : ∀ i : Nat, i < 9 → (10 : Int) ^ i ≤ 100000000 := by decide +kernel
theorem weF_rng {v q : Int} (hv : 0 ≤ v ∧ v ≤ 10) : ∀ i : Nat, i ≤ 8 → 0 ≤ weF v q i ∧ weF v q i ≤ 10 ^ i
  | 0, _ => ⟨by show (0 : Int) ≤ 1; decide, by show (1 : Int) ≤ 1; decide⟩
  | i + 1, h => by
    have ih := weF_rng hv (q := q) i (by omega)
    rw [weF_s]
    have c : 0 ≤ (if jand (jshr q (i : Nat)) 1 ≠ 1 then w32 (10 - v) else v) ∧ (if jand (jshr q (i : Nat)) 1 ≠ 1 then w32 (10 - v) else v) ≤ 10 := by
      rw [w32_s (z := 10 - v) (by omega) (by omega)]
      split <;> omega
    generalize (if jand (jshr q (i : Nat)) 1 ≠ 1 then w32 (10 - v) else v) = c0 at c
    have a1 : 0 ≤ weF v q i * c0 := Int.mul_nonneg ih.1 c.1
    have a2 : weF v q i * c0 ≤ 10 ^ i * 10 := Int.mul_le_mul ih.2 c.2 c.1 (by have := ih.1; have := ih.2; omega)
    have p1 : (10 : Int) ^ (i + 1) = 10 ^ i * 10 := Int.pow_succ 10 i
    have p2 := p10 (i + 1) (by omega)
    rw [w64_id ⟨by omega, by omega⟩, p1]
    exact ⟨a1, a2⟩
theorem weF_8 {v q : Int} (hv : 0 ≤ v ∧ v ≤ 10) {i : Nat} (h : i ≤ 8) : 0 ≤ weF v q i ∧ weF v q i ≤ 100000000 := by
  have a := weF_rng hv (q := q) i h
  have p2 := p10 i (by omega)
  omega
theorem L_wei (d : Nat) {m : mMem} {cn : Nat} (h : m 0 15 = cn) (h8 : cn ≤ 8) (q v : Int) : mR3 (d + 1) 106 [vr 0, vi q, vi v] (S0, m) (some (vl (weF v q cn)), (S0, m)) := by
  refine ⟨⟨by decide, Nat.le_of_ble_eq_true rfl⟩, fun K hK => q_L_weight_0 hK q v m ?_⟩
  have loop : ∀ (j i : Nat), i + j = cn → K 5 [(0, vr 0), (1, vi q), (2, vi v), (3, vl (weF v q i)), (5, vi (i : Int))] [] (S0, m) := by
    intro j
    induction j with
    | zero =>
      intro i hi
      rw [show i = cn by omega]
      exact q_L_weight_5 hK _ _ _ _ m (br_t (by rw [h]; exact Int.le_refl _) (mret_l rfl rfl))
    | succ j ih =>
      intro i hi
      have h4 := ih (i + 1) (by omega)
      have ew : w32 ((i : Int) + 1) = ((i + 1 : Nat) : Int) := by rw [w32_s (by omega) (by omega)]; omega
      have lt : ¬ (cn : Int) ≤ (i : Int) := by omega
      rw [weF_s] at h4
      refine q_L_weight_5 hK _ _ _ _ m (br_f (by rw [h]; exact lt) ?_)
      rw [ew]
      refine ⟨fun z => ?_, fun z => ?_⟩
      · rw [if_pos z] at h4
        exact h4
      · rw [if_neg z] at h4
        exact h4
  exact loop cn 0 (by omega)
