/-! PURE PROOFS 42: holes, fills, what fits -/
def hoF (f : Int → Int) : Nat → Int → Int
  | 0 => fun _ => 0
  | n + 1 => if f (n : Nat) = 4 then fup (hoF f n) (cO f 4 n) (n : Nat) else hoF f n
theorem hoF_s (f : Int → Int) (n : Nat) : hoF f (n + 1) = if f (n : Nat) = 4 then fup (hoF f n) (cO f 4 n) (n : Nat) else hoF f n := rfl
theorem cO_s (f : Int → Int) (s : Int) (n : Nat) : cO f s (n + 1) = cO f s n + b2 (f (n : Nat) = s) := rfl
theorem cO_mono (f : Int → Int) (s : Int) (n : Nat) : ∀ j : Nat, cO f s n ≤ cO f s (n + j)
  | 0 => Int.le_refl _
  | j + 1 => by
    have h1 := cO_mono f s n j
    have h2 := b2_01 (f ((n + j : Nat) : Int) = s)
    have h3 := cO_s f s (n + j)
    have h4 : n + (j + 1) = n + j + 1 := by omega
    rw [h4]
    omega
theorem hoF_rng (f : Int → Int) : ∀ (n : Nat) (i : Int), 0 ≤ i → i < cO f 4 n → 0 ≤ hoF f n i ∧ hoF f n i < n
  | 0, i, h0, h1 => by
    have e : cO f 4 0 = 0 := rfl
    omega
  | n + 1, i, h0, h1 => by
    have ih := hoF_rng f n i h0
    rw [cO_s] at h1
    rw [hoF_s]
    by_cases q : f (n : Nat) = 4
    · rw [if_pos q]
      rw [b2_t q] at h1
      unfold fup
      split
      · omega
      · have g := ih (by omega)
        omega
    · rw [if_neg q]
      rw [b2_f q] at h1
      have g := ih (by omega)
      omega
theorem L_holes (d : Nat) {M : mMem} (hc : Cht M 1) {m : mMem} (hm : FrL m M) : mI3 (d + 2) 109 [vr 0] m (fun v m' => FrL m' M ∧ ((4 < cO (M 2) 4 36 ∧ v = 0) ∨ (cO (M 2) 4 36 ≤ 4 ∧ v = 1 ∧ TrC m' M (M 2) (M 3) ∧ m' 0 14 = cO (M 2) 4 36 ∧ ∀ i : Int, 0 ≤ i → i < cO (M 2) 4 36 → m' 42 i = hoF (M 2) 36 i))) := by
  refine mI3_i ⟨by decide, Nat.le_of_ble_eq_true rfl⟩ (fun K hK => ?_)
  have m2 : m 2 = M 2 := (FrL_lo hm).1 2 (by decide) (by decide)
  have g := R_cellsOf d m 1 (by omega) 4
  have g2 : cO (m (1 + 1)) 4 36 = cO (M 2) 4 36 := by
    show cO (m 2) 4 36 = cO (M 2) 4 36
    rw [m2]
  rw [g2] at g
  refine q_L_gatherHoles_0 hK m ⟨_, _, g, fun q => ⟨_, R_copyFrom d m 9 1 (by unfold cpP; omega), ?_⟩, fun q => rI_i ⟨hm, Or.inl ⟨by omega, rfl⟩⟩⟩
  have t0 := T_copy (m := m) (M := M) hc (fun k a b => (FrL_lo hm).1 k a b)
  have loop : ∀ (j i : Nat), i + j = 36 → ∀ m' : mMem, FrL m' M → TrC m' M (M 2) (M 3) → m' 0 14 = cO (M 2) 4 i → (∀ x : Int, 0 ≤ x → x < cO (M 2) 4 i → m' 42 x = hoF (M 2) i x) → K 32 [(0, vr 0), (1, vi (i : Int))] [] (S0, m') := by
    intro j
    induction j with
    | zero =>
      intro i hi m' h0 h1 h2 h3
      rw [show i = 36 by omega] at h2 h3 ⊢
      exact q_L_gatherHoles_32 hK _ m' (br_t (by decide) (rI_i ⟨h0, Or.inr ⟨q, rfl, h1, h2, h3⟩⟩))
    | succ j ih =>
      intro i hi m' h0 h1 h2 h3
      have h4 := ih (i + 1) (by omega)
      have mo := cO_mono (M 2) 4 (i + 1) j
      rw [show i + 1 + j = 36 by omega] at mo
      have r0 := cO_rng (M 2) 4 i
      rw [cO_s] at h4 mo
      rw [hoF_s] at h4
      generalize cO (M 2) 4 i = cn at h2 h3 h4 mo r0
      generalize hoF (M 2) i = H at h3 h4
      generalize cO (M 2) 4 36 = tot at q mo
      have hz : ∃ z : Int, z = (i : Int) := ⟨_, rfl⟩
      obtain ⟨z, hz⟩ := hz
      have ez : ((i + 1 : Nat) : Int) = z + 1 := by omega
      rw [ez, ← hz] at h4
      rw [← hz] at mo
      rw [← hz]
      have zb : 0 ≤ z ∧ z < 36 := by omega
      clear hz ez hi ih
      have ew : w32 (z + 1) = z + 1 := w32_s (by omega) (by omega)
      have mz : m' 2 = M 2 := (FrL_lo h0).1 2 (by decide) (by decide)
      refine q_L_gatherHoles_32 hK _ m' (br_f (by omega) ?_)
      rw [ew, mz]
      refine mIn_i (by omega) (by omega) ⟨fun y => ?_, fun y => ?_⟩
      · rw [b2_f y, if_neg y, Int.add_zero] at h4
        exact h4 m' h0 h1 h2 h3
      · have y := Decidable.not_not.mp y
        rw [b2_t y] at mo
        rw [b2_t y, if_pos y] at h4
        refine br_f (by omega) (mIn_i (by omega) (by omega) ?_)
        have e1 : mupd m' 42 (m' 0 14) z 0 14 = cn := by rw [mupd_ne _ _ _ (by decide), h2]
        rw [e1, w32_s (z := cn + 1) (by omega) (by omega), h2]
        refine h4 _ ?_ ?_ ?_ (fun x x0 x1 => ?_)
        · refine ⟨fun k hk => ?_, ?_, ?_⟩
          · rw [mupd_ne _ _ _ (by omega), mupd_ne _ _ _ (by omega), h0.1 k hk]
          · rw [mupd_at, fup_ne _ _ (by decide), mupd_ne _ _ _ (by decide), h0.2.1]
          · rw [mupd_at, fup_ne _ _ (by decide), mupd_ne _ _ _ (by decide), h0.2.2]
        · exact T_eq h1 (fun k a b => by rw [mupd_ne _ _ _ (by omega), mupd_ne _ _ _ (by omega)]) (by rw [mupd_ne _ _ _ (by omega), mupd_ne _ _ _ (by omega)]) (by rw [mupd_ne _ _ _ (by omega), mupd_ne _ _ _ (by omega)])
        · rw [mupd_at, fup_at]
        · rw [mupd_ne _ _ _ (by decide), mupd_at]
          unfold fup
          split
          · rfl
          · exact h3 x x0 (by omega)
  refine loop 36 0 (by omega) _ ?_ ?_ ?_ (fun x x0 x1 => ?_)
  · refine ⟨fun k hk => ?_, ?_, ?_⟩
    · rw [mupd_ne _ _ _ (by omega), cpy_ne m (by omega), hm.1 k hk]
    · rw [mupd_at, fup_ne _ _ (by decide), cpy_ne m (by omega), hm.2.1]
    · rw [mupd_at, fup_ne _ _ (by decide), cpy_ne m (by omega), hm.2.2]
  · exact T_eq t0 (fun k a b => by rw [mupd_ne _ _ _ (by omega)]) (by rw [mupd_ne _ _ _ (by omega)]) (by rw [mupd_ne _ _ _ (by omega)])
  · rw [mupd_at, fup_at]
    rfl
  · have e : cO (M 2) 4 0 = 0 := rfl
    omega
theorem M_holes (d : Nat) {M m : mMem} (hg : Pg M 1 0) (m54 : ∀ i : Int, 0 ≤ i → i < 85 → m 54 i = M 54 i) : mI3 (d + 1) 174 [vr 53] m (fun v m' => FrM m' m ∧ m' 54 = m 54 ∧ m' 53 24 = cO (M 2) 4 36 ∧ (∀ i : Int, 0 ≤ i → i < cO (M 2) 4 36 → m' 61 i = hoF (M 2) 36 i) ∧ v = b2 (4 < cO (M 2) 4 36)) := by
  have hp := Pg0_of hg
  refine mI3_i ⟨by decide, Nat.le_of_ble_eq_true rfl⟩ (fun K hK => q_M_isTooMany_0 hK m ?_)
  have loop : ∀ (j i : Nat), i + j = 36 → ∀ m' : mMem, FrM m' m → m' 54 = m 54 → m' 53 24 = cO (M 2) 4 i → (∀ x : Int, 0 ≤ x → x < cO (M 2) 4 i → m' 61 x = hoF (M 2) i x) → K 7 [(0, vr 53), (1, vi (i : Int))] [] (S0, m') := by
    intro j
    induction j with
    | zero =>
      intro i hi m' h0 h1 h2 h3
      rw [show i = 36 by omega] at h2 h3 ⊢
      refine q_M_isTooMany_7 hK _ m' (br_t (by decide) ⟨fun q => rI_i ⟨h0, h1, h2, h3, ?_⟩, fun q => rI_i ⟨h0, h1, h2, h3, ?_⟩⟩)
      · rw [b2_f (by omega)]
      · rw [b2_t (by omega)]
    | succ j ih =>
      intro i hi m' h0 h1 h2 h3
      have h4 := ih (i + 1) (by omega)
      have r0 := cO_rng (M 2) 4 i
      rw [cO_s] at h4
      rw [hoF_s] at h4
      generalize cO (M 2) 4 i = cn at h2 h3 h4 r0
      generalize hoF (M 2) i = H at h3 h4
      have hz : ∃ z : Int, z = (i : Int) := ⟨_, rfl⟩
      obtain ⟨z, hz⟩ := hz
      have ez : ((i + 1 : Nat) : Int) = z + 1 := by omega
      rw [ez, ← hz] at h4
      rw [← hz] at r0
      rw [← hz]
      have zb : 0 ≤ z ∧ z < 36 := by omega
      clear hz ez hi ih
      have ew : w32 (z + 1) = z + 1 := w32_s (by omega) (by omega)
      have mz : m' 54 z = M 2 z := by rw [h1, m54 z zb.1 (by omega), hp.1 z zb.1 zb.2]
      refine q_M_isTooMany_7 hK _ m' (br_f (by omega) ?_)
      rw [ew, mz]
      refine mIn_i (by omega) (by omega) ⟨fun y => ?_, fun y => ?_⟩
      · rw [b2_f y, if_neg y, Int.add_zero] at h4
        exact h4 m' h0 h1 h2 h3
      · have y := Decidable.not_not.mp y
        rw [b2_t y, if_pos y] at h4
        refine mIn_i (by omega) (by omega) ?_
        have e1 : mupd m' 61 (m' 53 24) z 53 24 = cn := by rw [mupd_ne _ _ _ (by decide), h2]
        rw [e1, w32_s (z := cn + 1) (by omega) (by omega), h2]
        refine h4 _ (FrM_53 (FrM_trans ⟨fun k _ _ _ a _ => mupd_ne _ _ _ a, ?_, ?_, ?_, ?_, fun i _ _ => ?_⟩ h0) (by decide) (by decide) (by decide) (by decide)) ?_ ?_ (fun x x0 x1 => ?_)
        · rw [mupd_ne _ _ _ (by decide)]
        · rw [mupd_ne _ _ _ (by decide)]
        · rw [mupd_ne _ _ _ (by decide)]
        · rw [mupd_ne _ _ _ (by decide)]
        · rw [mupd_ne _ _ _ (by decide)]
        · rw [mupd_ne _ _ _ (by decide), mupd_ne _ _ _ (by decide), h1]
        · rw [mupd_at, fup_at]
        · rw [mupd_ne _ _ _ (by decide), mupd_at]
          unfold fup
          split
          · rfl
          · exact h3 x x0 (by omega)
  refine loop 36 0 (by omega) _ (FrM_53 (FrM_refl m) (by decide) (by decide) (by decide) (by decide)) ?_ ?_ (fun x x0 x1 => ?_)
  · rw [mupd_ne _ _ _ (by decide)]
  · rw [mupd_at, fup_at]
    rfl
  · have e : cO (M 2) 4 0 = 0 := rfl
    omega
