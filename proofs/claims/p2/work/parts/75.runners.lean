/-! PURE PROOFS 52: runners -/
def ruF (f : Int → Int) : Nat → Int → Int
  | 0 => fun _ => 0
  | n + 1 => if f (n : Nat) = 1 ∧ f ((n : Nat) + 6) = 0 then fup (ruF f n) (lrC f n) (n : Nat) else ruF f n
theorem ruF_s (f : Int → Int) (n : Nat) : ruF f (n + 1) = if f (n : Nat) = 1 ∧ f ((n : Nat) + 6) = 0 then fup (ruF f n) (lrC f n) (n : Nat) else ruF f n := rfl
theorem lrC_s (f : Int → Int) (n : Nat) : lrC f (n + 1) = lrC f n + b2 (f (n : Nat) = 1 ∧ f ((n : Nat) + 6) = 0) := rfl
theorem lrC_mono (f : Int → Int) (n : Nat) : ∀ j : Nat, lrC f n ≤ lrC f (n + j)
  | 0 => Int.le_refl _
  | j + 1 => by
    have h1 := lrC_mono f n j
    have h2 := b2_01 (f ((n + j : Nat) : Int) = 1 ∧ f (((n + j : Nat) : Int) + 6) = 0)
    have h3 := lrC_s f (n + j)
    have h4 : n + (j + 1) = n + j + 1 := by omega
    rw [h4]
    omega
theorem ruF_rng (f : Int → Int) : ∀ (n : Nat) (i : Int), 0 ≤ i → i < lrC f n → (0 ≤ ruF f n i ∧ ruF f n i < n) ∧ f (ruF f n i + 6) = 0
  | 0, i, h0, h1 => by
    have e : lrC f 0 = 0 := rfl
    omega
  | n + 1, i, h0, h1 => by
    have ih := ruF_rng f n i h0
    rw [lrC_s] at h1
    rw [ruF_s]
    by_cases q : f (n : Nat) = 1 ∧ f ((n : Nat) + 6) = 0
    · rw [if_pos q]
      rw [b2_t q] at h1
      by_cases z : i = lrC f n
      · rw [z, fup_at]
        exact ⟨by omega, q.2⟩
      · rw [fup_ne _ _ z]
        have g := ih (by omega)
        exact ⟨by omega, g.2⟩
    · rw [if_neg q]
      rw [b2_f q] at h1
      have g := ih (by omega)
      exact ⟨by omega, g.2⟩
theorem ruF_lt (f : Int → Int) : ∀ (n : Nat) (i j : Int), 0 ≤ i → i < j → j < lrC f n → ruF f n i < ruF f n j
  | 0, i, j, h0, h1, h2 => by
    have e : lrC f 0 = 0 := rfl
    omega
  | n + 1, i, j, h0, h1, h2 => by
    have ih := ruF_lt f n i j h0 h1
    have rr := ruF_rng f n i h0
    rw [lrC_s] at h2
    rw [ruF_s]
    by_cases q : f (n : Nat) = 1 ∧ f ((n : Nat) + 6) = 0
    · rw [if_pos q]
      rw [b2_t q] at h2
      by_cases z : j = lrC f n
      · rw [z, fup_at, fup_ne _ _ (by omega)]
        have g := rr (by omega)
        omega
      · rw [fup_ne _ _ z, fup_ne _ _ (by omega)]
        exact ih (by omega)
    · rw [if_neg q]
      rw [b2_f q] at h2
      exact ih (by omega)
theorem lrM_59 (M : mMem) (f : Int → Int) : ∀ (n : Nat) (i : Int), 0 ≤ i → i < lrC f n → lrM M f n 59 i = ruF f n i
  | 0, i, h0, h1 => by
    have e : lrC f 0 = 0 := rfl
    omega
  | n + 1, i, h0, h1 => by
    have ih := lrM_59 M f n i h0
    rw [lrC_s] at h1
    rw [ruF_s]
    show (if f (n : Nat) = 1 ∧ f ((n : Nat) + 6) = 0 then mupd (lrM M f n) 59 (lrC f n) (n : Nat) else lrM M f n) 59 i = _
    by_cases q : f (n : Nat) = 1 ∧ f ((n : Nat) + 6) = 0
    · rw [if_pos q, if_pos q, mupd_at]
      rw [b2_t q] at h1
      by_cases z : i = lrC f n
      · rw [z, fup_at, fup_at]
      · rw [fup_ne _ _ z, fup_ne _ _ z]
        exact ih (by omega)
    · rw [if_neg q, if_neg q]
      rw [b2_f q] at h1
      exact ih (by omega)
def RuOK (M : mMem) (H : Int → Int) (cn : Nat) : Prop := cn ≤ 8 ∧ (∀ i : Int, 0 ≤ i → i < cn → (0 ≤ H i ∧ H i < 30) ∧ M 2 (H i + 6) = 0) ∧ ∀ i j : Int, 0 ≤ i → i < j → j < cn → H i < H j
def RuL (M m : mMem) (H : Int → Int) (cn : Nat) : Prop := FrL m M ∧ (∃ g, TrC m M g (M 3) ∧ ∀ i : Int, 0 ≤ i → i < 36 → (∀ j : Nat, j < cn → i ≠ H j + 6) → g i = M 2 i) ∧ m 0 15 = cn ∧ ∀ i : Int, 0 ≤ i → i < cn → m 44 i = H i
def RcP (M : mMem) (cn : Nat) : Prop := lrC (M 2) 30 = cn
theorem ru_get (M : mMem) : (8 < lrC (M 2) 30) ∨ ∃ cn : Nat, RcP M cn ∧ RuOK M (ruF (M 2) 30) cn := by
  by_cases q : 8 < lrC (M 2) 30
  · exact Or.inl q
  · have r := lrC_rng (M 2) 30
    have e : lrC (M 2) 30 = ((lrC (M 2) 30).toNat : Int) := by omega
    refine Or.inr ⟨(lrC (M 2) 30).toNat, e, by omega, fun i a b => ?_, fun i j a b c => ?_⟩
    · have g := ruF_rng (M 2) 30 i a (by omega)
      exact ⟨by omega, g.2⟩
    · exact ruF_lt (M 2) 30 i j a b (by omega)
theorem L_run0 (d : Nat) {M m : mMem} (hc : Cht M 1) (hm : FrL m M) (h : 8 < lrC (M 2) 30) : mI3 (d + 2) 104 [vr 0] m (fun v m' => v = 0 ∧ FrL m' M) := by
  have e2 : m 2 = M 2 := (FrL_lo hm).1 2 (by decide) (by decide)
  have c1 : Cht m 1 := Cht_eq hc (fun k a b => (FrL_lo hm).1 k a (by omega))
  have g := R_runningCells d m 1 (by omega) c1.1
  have g2 : cB (m (1 + 1)) 1 0 = lrC (M 2) 30 := by
    show cB (m 2) 1 0 = lrC (M 2) 30
    rw [e2]
    rfl
  rw [g2] at g
  exact mI3_i ⟨by decide, Nat.le_of_ble_eq_true rfl⟩ (fun K hK => q_L_gatherRunners_0 hK m ⟨_, _, g, br_f (by omega) (rI_i ⟨rfl, hm⟩)⟩)
theorem L_run (d : Nat) {M m : mMem} {cn : Nat} (hc : Cht M 1) (hm : FrL m M) (hcn : RcP M cn) (h8 : cn ≤ 8) : mI3 (d + 2) 104 [vr 0] m (fun v m' => v = 1 ∧ RuL M m' (ruF (M 2) 30) cn) := by
  have e2 : m 2 = M 2 := (FrL_lo hm).1 2 (by decide) (by decide)
  have c1 : Cht m 1 := Cht_eq hc (fun k a b => (FrL_lo hm).1 k a (by omega))
  have g := R_runningCells d m 1 (by omega) c1.1
  have g2 : cB (m (1 + 1)) 1 0 = cn := by
    show cB (m 2) 1 0 = cn
    rw [e2]
    exact hcn
  rw [g2] at g
  have hq : lrC (M 2) 30 ≤ 8 := by
    have hcn : lrC (M 2) 30 = cn := hcn
    omega
  refine mI3_i ⟨by decide, Nat.le_of_ble_eq_true rfl⟩ (fun K hK => q_L_gatherRunners_0 hK m ⟨_, _, g, br_t (by omega) ⟨_, R_copyFrom d m 9 1 (by unfold cpP; omega), ?_⟩⟩)
  have t0 := T_copy (m := m) (M := M) hc (fun k a b => (FrL_lo hm).1 k a b)
  have last : ∀ (j i : Nat), i + j = 36 → 30 ≤ i → ∀ m' : mMem, RuL M m' (ruF (M 2) 30) cn → K 32 [(0, vr 0), (1, vi (i : Int))] [] (S0, m') := by
    intro j
    induction j with
    | zero =>
      intro i hi h30 m' h0
      rw [show i = 36 by omega]
      exact q_L_gatherRunners_32 hK _ m' (br_t (by decide) (rI_i ⟨rfl, h0⟩))
    | succ j ih =>
      intro i hi h30 m' h0
      have ew : w32 ((i : Int) + 1) = ((i + 1 : Nat) : Int) := by rw [w32_s (by omega) (by omega)]; omega
      refine q_L_gatherRunners_32 hK _ m' (br_f (by omega) ⟨_, _, R_canRun d m' 1 (by omega) (i : Int) (by omega), ?_⟩)
      rw [ew]
      exact br_t (b2_f (by omega)) (ih (i + 1) (by omega) (by omega) m' h0)
  have loop : ∀ (j i : Nat), i + j = 30 → ∀ m' : mMem, FrL m' M → TrC m' M (M 2) (M 3) → m' 0 15 = lrC (M 2) i → (∀ x : Int, 0 ≤ x → x < lrC (M 2) i → m' 44 x = ruF (M 2) i x) → K 32 [(0, vr 0), (1, vi (i : Int))] [] (S0, m') := by
    intro j
    induction j with
    | zero =>
      intro i hi m' h0 h1 h2 h3
      rw [show i = 30 by omega] at h2 h3 ⊢
      have hcn : lrC (M 2) 30 = cn := hcn
      rw [hcn] at h2 h3
      exact last 6 30 (by omega) (by omega) m' ⟨h0, ⟨M 2, h1, fun _ _ _ _ => rfl⟩, h2, h3⟩
    | succ j ih =>
      intro i hi m' h0 h1 h2 h3
      have h4 := ih (i + 1) (by omega)
      have mo := lrC_mono (M 2) (i + 1) j
      rw [show i + 1 + j = 30 by omega] at mo
      have r0 := lrC_rng (M 2) i
      rw [lrC_s] at h4 mo
      rw [ruF_s] at h4
      generalize lrC (M 2) i = cc at h2 h3 h4 mo r0
      generalize ruF (M 2) i = H at h3 h4
      have cr := R_canRun d m' 1 (by omega) (i : Int) (by omega)
      have hz : ∃ z : Int, z = (i : Int) := ⟨_, rfl⟩
      obtain ⟨z, hz⟩ := hz
      have ez : ((i + 1 : Nat) : Int) = z + 1 := by omega
      rw [ez, ← hz] at h4
      rw [← hz] at mo cr
      rw [← hz]
      have zb : 0 ≤ z ∧ z < 30 := by omega
      generalize lrC (M 2) 30 = tot at hq mo
      clear hz ez hi ih
      have ew : w32 (z + 1) = z + 1 := w32_s (by omega) (by omega)
      have mz : m' 2 = M 2 := (FrL_lo h0).1 2 (by decide) (by decide)
      have mz2 : m' (1 + 1) = M 2 := mz
      rw [mz2] at cr
      refine q_L_gatherRunners_32 hK _ m' (br_f (by omega) ⟨_, _, cr, ?_⟩)
      rw [ew]
      refine ⟨fun y => ?_, fun y => ?_⟩
      · have y := b2_0.mp y
        have y2 : ¬ (M 2 z = 1 ∧ M 2 (z + 6) = 0) := fun w => y ⟨w.1, zb.2, w.2⟩
        rw [b2_f y2, if_neg y2, Int.add_zero] at h4
        exact h4 m' h0 h1 h2 h3
      · have y := b2_n0.mp y
        have y2 : M 2 z = 1 ∧ M 2 (z + 6) = 0 := ⟨y.1, y.2.2⟩
        rw [b2_t y2] at mo
        rw [b2_t y2, if_pos y2] at h4
        refine br_f (by omega) (mIn_i (by omega) (by omega) ?_)
        have e1 : mupd m' 44 (m' 0 15) z 0 15 = cc := by rw [mupd_ne _ _ _ (by decide), h2]
        rw [e1, w32_s (z := cc + 1) (by omega) (by omega), h2]
        refine h4 _ ?_ ?_ ?_ (fun x x0 x1 => ?_)
        · refine ⟨fun k hk => ?_, ?_, ?_⟩
          · rw [mupd_ne _ _ _ (by omega), mupd_ne _ _ _ (by omega), h0.1 k hk]
          · rw [mupd_at, fup_ne _ _ (by decide), mupd_ne _ _ _ (by decide), h0.2.1]
          · rw [mupd_at, fup_ne _ _ (by decide), mupd_ne _ _ _ (by decide), h0.2.2]
        · exact T_eq h1 (fun k a b => by rw [mupd_ne _ _ _ (by omega), mupd_ne _ _ _ (by omega)]) (by rw [mupd_ne _ _ _ (by omega), mupd_ne _ _ _ (by omega)]) (by rw [mupd_ne _ _ _ (by omega), mupd_ne _ _ _ (by omega)])
        · rw [mupd_at, fup_at]
        · rw [mupd_ne _ _ _ (by decide), mupd_at]
          unfold fup
          split
          · rfl
          · exact h3 x x0 (by omega)
  refine loop 30 0 (by omega) _ ?_ ?_ ?_ (fun x x0 x1 => ?_)
  · refine ⟨fun k hk => ?_, ?_, ?_⟩
    · rw [mupd_ne _ _ _ (by omega), cpy_ne m (by omega), hm.1 k hk]
    · rw [mupd_at, fup_ne _ _ (by decide), cpy_ne m (by omega), hm.2.1]
    · rw [mupd_at, fup_ne _ _ (by decide), cpy_ne m (by omega), hm.2.2]
  · exact T_eq t0 (fun k a b => by rw [mupd_ne _ _ _ (by omega)]) (by rw [mupd_ne _ _ _ (by omega)]) (by rw [mupd_ne _ _ _ (by omega)])
  · rw [mupd_at, fup_at]
    rfl
  · have e : lrC (M 2) 0 = 0 := rfl
    omega
