/-! PURE PROOFS 50: ask, the class -/
/-- so many holes (not for arithmetic) -/
def HcP (M : mMem) (cn : Nat) : Prop := cO (M 2) 4 36 = cn
theorem ask_L {M : mMem} (h : Inv M) {x : Int} (c : x = 0 ∨ x = 1) {cn ns k : Nat} (hk : M 1 5 = k) (hcn : HcP M cn) (ok : HoOK M (hoF (M 2) 36) cn ns) : mI3 10 78 [vr 0, vi x] M (fun v m => v = (if (asS M (hoF (M 2) 36) cn ns k).1 = -4 then (asS M (hoF (M 2) 36) cn ns k).1 else if x ≠ 0 then -(asS M (hoF (M 2) 36) cn ns k).2 else (asS M (hoF (M 2) 36) cn ns k).1) ∧ FrL m M) := by
  have hc := h.1
  have hs := h.2.2.2.2.2.1
  have hp := Pg0_of h.2.1
  have n5 : 0 ≤ M 1 5 ∧ M 1 5 ≤ 5 := hc.2.1
  have wA : ∀ _ : True, w32 (-(asS M (hoF (M 2) 36) cn ns k).2) = -(asS M (hoF (M 2) 36) cn ns k).2 := by
    intro _
    have nb := fc_b cn (by have := ok.1; omega)
    have rg := asS_rng M (hoF (M 2) 36) cn ns k
    generalize (asS M (hoF (M 2) 36) cn ns k).2 = u at rg
    generalize 4 ^ cn = N at rg nb
    exact w32_s (by omega) (by omega)
  have wW : ∀ l : Int, w32 (-(woM M (hoF (M 2) 36) cn ns l (4 ^ cn))) = -(woM M (hoF (M 2) 36) cn ns l (4 ^ cn)) := by
    intro l
    have nb := fc_b cn (by have := ok.1; omega)
    have rg := woM_le M (hoF (M 2) 36) cn ns l (4 ^ cn)
    generalize woM M (hoF (M 2) 36) cn ns l (4 ^ cn) = u at rg
    generalize 4 ^ cn = N at rg nb
    exact w32_s (by omega) (by omega)
  have wf : ∀ _ : True, w32 (-(flS M (hoF (M 2) 36) cn ns (4 ^ cn))) = -(flS M (hoF (M 2) 36) cn ns (4 ^ cn)) := by
    intro _
    have nb := fc_b cn (by have := ok.1; omega)
    have rg := flS_rng M (hoF (M 2) 36) cn ns (4 ^ cn)
    generalize flS M (hoF (M 2) 36) cn ns (4 ^ cn) = u at rg
    generalize 4 ^ cn = N at rg nb
    exact w32_s (by omega) (by omega)
  refine mI3_i ⟨by decide, Nat.le_of_ble_eq_true rfl⟩ (fun K hK => q_L_ask_0 hK x M ⟨_, _, R_isPart 8 M x, br_t (b2_n0.mpr c) (cI (L_ho 7 hc (FrL_refl M) hcn ok.1) (fun v m1 p => ?_))⟩)
  refine br_t (by rw [p.1]; decide) (cI (L_group 5 hc hs ok p.2) (fun v2 m2 p2 => ?_))
  obtain ⟨q1, q2, q3⟩ := p2
  rw [q1, wf trivial]
  refine cN (C_begin 8 m2 _) (fun m3 p3 => ?_)
  have loop : ∀ (j i : Nat), i + j = k → ∀ m' : mMem, HoL M m' (hoF (M 2) 36) cn → (∀ l n : Int, 0 ≤ l → l < M 1 5 → 0 ≤ n → n < 61 → m' 43 (61 * l + n) = gc M (hoF (M 2) 36) cn ns l n (4 ^ cn)) → ChC m' (asS M (hoF (M 2) 36) cn ns i) → K 35 [(0, vr 0), (1, vi x), (3, vi (i : Int))] [] (S0, m') := by
    intro j
    induction j with
    | zero =>
      intro i hi m' h1 h2 h3
      have e5 : m' 1 5 = k := by rw [(FrL_lo h1.1).1 1 (by decide) (by decide), hk]
      rw [show i = k by omega] at h3 ⊢
      refine q_L_ask_35 hK _ _ m' (br_t (by rw [e5]; exact Int.le_refl _) ?_)
      rw [h3.1, h3.2]
      refine ⟨fun q => rI_i ⟨?_, h1.1⟩, fun q => ⟨fun q2 => rI_i ⟨?_, h1.1⟩, fun q2 => rI_i ⟨?_, h1.1⟩⟩⟩
      · rw [if_pos q]
      · rw [if_neg q, if_pos q2]
        exact wA trivial
      · rw [if_neg q, if_neg q2]
    | succ j ih =>
      intro i hi m' h1 h2 h3
      have h4 := ih (i + 1) (by omega)
      have e5 : m' 1 5 = k := by rw [(FrL_lo h1.1).1 1 (by decide) (by decide), hk]
      have ew : w32 ((i : Int) + 1) = ((i + 1 : Nat) : Int) := by rw [w32_s (by omega) (by omega)]; omega
      have lt : ¬ ((k : Nat) : Int) ≤ (i : Int) := by omega
      have ib : 0 ≤ (i : Int) ∧ (i : Int) < M 1 5 := by omega
      have i5 : 0 ≤ (i : Int) ∧ (i : Int) < 5 := by omega
      have lg : mR3 9 113 [vr 0, vi (i : Int)] (S0, m') (some (vi (woM M (hoF (M 2) 36) cn ns (i : Int) (4 ^ cn))), (S0, m')) := by
        rw [← lg_wo M (hoF (M 2) 36) cn ns (i : Int) (4 ^ cn)]
        exact L_largest 8 i5 (fun n a b => h2 (i : Int) n ib.1 ib.2 a b)
      rw [asS_s] at h4
      refine q_L_ask_35 hK _ _ m' (br_f (by rw [e5]; exact lt) ⟨_, _, lg, ?_⟩)
      rw [ew, wW]
      refine cN (C_offer 8 h3 _ _) (fun m4 p4 => h4 m4 (HoL_37 h1 p4.2) (fun l n a b c d => by rw [p4.2 43 (by decide), h2 l n a b c d]) p4.1)
  exact loop k 0 (by omega) m3 (HoL_37 q2 p3.2) (fun l n a b c d => by rw [p3.2 43 (by decide), q3 l n a b c d]) p3.1
