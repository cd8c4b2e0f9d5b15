/-! PURE PROOFS 55: luck and mean, the class -/
def frV (cn : Nat) (u x : Int) : Int := jldiv (if x ≠ 0 then beW cn else u) ((Int.gcd (beW cn) u : Nat) : Int)
theorem upS_60 {M : mMem} {H : Int → Int} {cn k : Nat} {v l : Int} (hv : 0 ≤ v ∧ v ≤ 10) (h8 : cn ≤ 8) (k5 : k ≤ 5) (hL : lawOK (M 4) k) : 0 ≤ upS M H cn k v l (2 ^ cn) ∧ upS M H cn k v l (2 ^ cn) < 2 ^ 60 := by
  have b := sc_b cn (by omega)
  have r := upS_rng hv h8 k5 hL (H := H) (l := l) (2 ^ cn) b
  generalize upS M H cn k v l (2 ^ cn) = u at r
  generalize 2 ^ cn = n at b r
  have p : (2 : Int) ^ 60 = 1152921504606846976 := rfl
  omega
theorem RuL_15 {M m : mMem} {H : Int → Int} {cn : Nat} (h : RuL M m H cn) : m 0 15 = cn := h.2.2.1
theorem mean_L {M : mMem} (hc : Cht M 1) {v x : Int} (hv : 0 ≤ v ∧ v ≤ 10) (c : x = 0 ∨ x = 1) {cn k : Nat} (hk : M 1 5 = k) (hcn : RcP M cn) (ok : RuOK M (ruF (M 2) 30) cn) : mL3 10 72 [vr 0, vi v, vi x] M (fun w m => w = frV cn (upS M (ruF (M 2) 30) cn k v (-4) (2 ^ cn)) x ∧ FrL m M) := by
  have n5 : 0 ≤ M 1 5 ∧ M 1 5 ≤ 5 := hc.2.1
  have k5 : k ≤ 5 := by omega
  have hL := hc.2.2.1
  rw [hk] at hL
  have u60 := upS_60 (H := ruF (M 2) 30) (l := -4) hv ok.1 k5 hL
  have b256 := sc_b cn (by have := ok.1; omega)
  refine mL3_i ⟨by decide, Nat.le_of_ble_eq_true rfl⟩ (fun K hK => q_L_mean_0 hK v x M (br_f (by omega) (br_f (by omega) ⟨_, _, R_isPart 8 M x, br_t (b2_n0.mpr c) (cI (L_run 7 hc (FrL_refl M) hcn ok.1) (fun w m1 p => ?_))⟩)))
  have loop : ∀ (j i : Nat), i + j = 2 ^ cn → ∀ m' : mMem, RuL M m' (ruF (M 2) 30) cn → K 45 [(0, vr 0), (1, vi v), (2, vi x), (3, vl (upS M (ruF (M 2) 30) cn k v (-4) i)), (5, vi ((2 ^ cn : Nat) : Int)), (6, vi (i : Int))] [] (S0, m') := by
    intro j
    induction j with
    | zero =>
      intro i hi m' h1
      rw [show i = 2 ^ cn by omega]
      exact q_L_mean_45 hK _ _ _ _ _ m' (br_t (Int.le_refl _) ⟨_, _, L_frac 7 (RuL_15 h1) ok.1 u60.1 u60.2, rL_i ⟨rfl, h1.1⟩⟩)
    | succ j ih =>
      intro i hi m' h1
      have h4 := ih (i + 1) (by omega)
      rw [upS_s, if_neg (by decide)] at h4
      have ew : w32 ((i : Int) + 1) = ((i + 1 : Nat) : Int) := by rw [w32_s (by omega) (by omega)]; omega
      have lt : ¬ ((2 ^ cn : Nat) : Int) ≤ (i : Int) := by omega
      refine q_L_mean_45 hK _ _ _ _ _ m' (br_f lt (cN (L_let 6 ok h1 (i : Int)) (fun m2 p2 => ?_)))
      obtain ⟨q1, q2, q3⟩ := p2
      refine ⟨_, _, L_wei 8 (RuL_15 q2) ok.1 (i : Int) v, _, _, T_worth 6 q1 hk k5, ?_⟩
      rw [ew]
      exact h4 m2 q2
  have e15 : m1 0 15 = cn := RuL_15 p.2
  refine br_t (by rw [p.1]; decide) ?_
  rw [e15, sc_v cn (by have := ok.1; omega)]
  exact loop (2 ^ cn) 0 (by omega) m1 p.2
theorem luck_L {M : mMem} (hc : Cht M 1) {v l x : Int} (hv : 0 ≤ v ∧ v ≤ 10) (hl : 0 ≤ l ∧ l < M 1 5) (c : x = 0 ∨ x = 1) {cn k : Nat} (hk : M 1 5 = k) (hcn : RcP M cn) (ok : RuOK M (ruF (M 2) 30) cn) : mL3 10 71 [vr 0, vi v, vi l, vi x] M (fun w m => w = frV cn (upS M (ruF (M 2) 30) cn k v l (2 ^ cn)) x ∧ FrL m M) := by
  have n5 : 0 ≤ M 1 5 ∧ M 1 5 ≤ 5 := hc.2.1
  have k5 : k ≤ 5 := by omega
  have hL := hc.2.2.1
  rw [hk] at hL
  have u60 := upS_60 (H := ruF (M 2) 30) (l := l) hv ok.1 k5 hL
  have b256 := sc_b cn (by have := ok.1; omega)
  have l4 : l ≠ -4 := by omega
  refine mL3_i ⟨by decide, Nat.le_of_ble_eq_true rfl⟩ (fun K hK => q_L_luck_0 hK v l x M (br_f (by omega) (br_f (by omega) ⟨_, _, R_isLaw 8 M l, br_f (fun q => b2_0.mp q hl) ⟨_, _, R_isPart 8 M x, br_t (b2_n0.mpr c) (cI (L_run 7 hc (FrL_refl M) hcn ok.1) (fun w m1 p => ?_))⟩⟩)))
  have loop : ∀ (j i : Nat), i + j = 2 ^ cn → ∀ m' : mMem, RuL M m' (ruF (M 2) 30) cn → K 54 [(0, vr 0), (1, vi v), (2, vi l), (3, vi x), (4, vl (upS M (ruF (M 2) 30) cn k v l i)), (6, vi ((2 ^ cn : Nat) : Int)), (7, vi (i : Int))] [] (S0, m') := by
    intro j
    induction j with
    | zero =>
      intro i hi m' h1
      rw [show i = 2 ^ cn by omega]
      exact q_L_luck_54 hK _ _ _ _ _ _ m' (br_t (Int.le_refl _) ⟨_, _, L_frac 7 (RuL_15 h1) ok.1 u60.1 u60.2, rL_i ⟨rfl, h1.1⟩⟩)
    | succ j ih =>
      intro i hi m' h1
      have h4 := ih (i + 1) (by omega)
      rw [upS_s, if_pos l4] at h4
      have ew : w32 ((i : Int) + 1) = ((i + 1 : Nat) : Int) := by rw [w32_s (by omega) (by omega)]; omega
      have lt : ¬ ((2 ^ cn : Nat) : Int) ≤ (i : Int) := by omega
      refine q_L_luck_54 hK _ _ _ _ _ _ m' (br_f lt (cN (L_let 6 ok h1 (i : Int)) (fun m2 p2 => ?_)))
      obtain ⟨q1, q2, q3⟩ := p2
      refine ⟨_, _, T_reads 7 q1 hl, ?_⟩
      rw [ew]
      refine ⟨fun z => ?_, fun z => ⟨_, _, L_wei 8 (RuL_15 q2) ok.1 (i : Int) v, ?_⟩⟩
      · rw [if_pos z] at h4
        exact h4 m2 q2
      · rw [if_neg z] at h4
        exact h4 m2 q2
  have e15 : m1 0 15 = cn := RuL_15 p.2
  refine br_t (by rw [p.1]; decide) ?_
  rw [e15, sc_v cn (by have := ok.1; omega)]
  exact loop (2 ^ cn) 0 (by omega) m1 p.2
