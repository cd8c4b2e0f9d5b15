section
/-! PURE PROOFS 42: holes, fills, what fits -/
def hoF (f : Int → Int) : Nat → Int → Int
  | 0 => fun _ => 0
  | n + 1 => if f (n : Nat) = 4 then fup (hoF f n) (cO f 4 n) (n : Nat) else hoF f n
theorem hoF_s (f : Int → Int) (n : Nat) : hoF f (n + 1) = if f (n : Nat) = 4 then fup (hoF f n) (cO f 4 n) (n : Nat) else hoF f n := rfl
theorem cO_s (f : Int → Int) (s : Int) (n : Nat) : cO f s (n + 1) = cO f s n + b2 (f (n : Nat) = s) := rfl
theorem cO_mono (f : Int → Int) (s : Int) (n : Nat) : ∀ j : Nat, cO f s n ≤ cO f s (n + j)
  | 0 => Int.le_refl _
  | j + 1 => by
    have h1 := cO_mono f s n j
    have h2 := b2_01 (f ((n + j : Nat) : Int) = s)
    have h3 := cO_s f s (n + j)
    have h4 : n + (j + 1) = n + j + 1 := by omega
    rw [h4]
    omega
theorem hoF_rng (f : Int → Int) : ∀ (n : Nat) (i : Int), 0 ≤ i → i < cO f 4 n → 0 ≤ hoF f n i ∧ hoF f n i < n
  | 0, i, h0, h1 => by
    have e : cO f 4 0 = 0 := rfl
    omega
  | n + 1, i, h0, h1 => by
    have ih := hoF_rng f n i h0
    rw [cO_s] at h1
    rw [hoF_s]
    by_cases q : f (n : Nat) = 4
    · rw [if_pos q]
      rw [b2_t q] at h1
      unfold fup
      split
      · omega
      · have g := ih (by omega)
        omega
    · rw [if_neg q]
      rw [b2_f q] at h1
      have g := ih (by omega)
      omega
theorem L_holes (d : Nat) {M : mMem} (hc : Cht M 1) {m : mMem} (hm : FrL m M) : mI3 (d + 2) 109 [vr 0] m (fun v m' => FrL m' M ∧ ((4 < cO (M 2) 4 36 ∧ v = 0) ∨ (cO (M 2) 4 36 ≤ 4 ∧ v = 1 ∧ TrC m' M (M 2) (M 3) ∧ m' 0 14 = cO (M 2) 4 36 ∧ ∀ i : Int, 0 ≤ i → i < cO (M 2) 4 36 → m' 42 i = hoF (M 2) 36 i))) := by
  refine mI3_i ⟨by decide, Nat.le_of_ble_eq_true rfl⟩ (fun K hK => ?_)
  have m2 : m 2 = M 2 := (FrL_lo hm).1 2 (by decide) (by decide)
  have g := R_cellsOf d m 1 (by omega) 4
  have g2 : cO (m (1 + 1)) 4 36 = cO (M 2) 4 36 := by
    show cO (m 2) 4 36 = cO (M 2) 4 36
    rw [m2]
  rw [g2] at g
  refine q_L_gatherHoles_0 hK m ⟨_, _, g, fun q => ⟨_, R_copyFrom d m 9 1 (by unfold cpP; omega), ?_⟩, fun q => rI_i ⟨hm, Or.inl ⟨by omega, rfl⟩⟩⟩
  have t0 := T_copy (m := m) (M := M) hc (fun k a b => (FrL_lo hm).1 k a b)
  have loop : ∀ (j i : Nat), i + j = 36 → ∀ m' : mMem, FrL m' M → TrC m' M (M 2) (M 3) → m' 0 14 = cO (M 2) 4 i → (∀ x : Int, 0 ≤ x → x < cO (M 2) 4 i → m' 42 x = hoF (M 2) i x) → K 32 [(0, vr 0), (1, vi (i : Int))] [] (S0, m') := by
    intro j
    induction j with
    | zero =>
      intro i hi m' h0 h1 h2 h3
      rw [show i = 36 by omega] at h2 h3 ⊢
      exact q_L_gatherHoles_32 hK _ m' (br_t (by decide) (rI_i ⟨h0, Or.inr ⟨q, rfl, h1, h2, h3⟩⟩))
    | succ j ih =>
      intro i hi m' h0 h1 h2 h3
      have h4 := ih (i + 1) (by omega)
      have mo := cO_mono (M 2) 4 (i + 1) j
      rw [show i + 1 + j = 36 by omega] at mo
      have r0 := cO_rng (M 2) 4 i
      rw [cO_s] at h4 mo
      rw [hoF_s] at h4
      generalize cO (M 2) 4 i = cn at h2 h3 h4 mo r0
      generalize hoF (M 2) i = H at h3 h4
      generalize cO (M 2) 4 36 = tot at q mo
      have hz : ∃ z : Int, z = (i : Int) := ⟨_, rfl⟩
      obtain ⟨z, hz⟩ := hz
      have ez : ((i + 1 : Nat) : Int) = z + 1 := by omega
      rw [ez, ← hz] at h4
      rw [← hz] at mo
      rw [← hz]
      have zb : 0 ≤ z ∧ z < 36 := by omega
      clear hz ez hi ih
      have ew : w32 (z + 1) = z + 1 := w32_s (by omega) (by omega)
      have mz : m' 2 = M 2 := (FrL_lo h0).1 2 (by decide) (by decide)
      refine q_L_gatherHoles_32 hK _ m' (br_f (by omega) ?_)
      rw [ew, mz]
      refine mIn_i (by omega) (by omega) ⟨fun y => ?_, fun y => ?_⟩
      · rw [b2_f y, if_neg y, Int.add_zero] at h4
        exact h4 m' h0 h1 h2 h3
      · have y := Decidable.not_not.mp y
        rw [b2_t y] at mo
        rw [b2_t y, if_pos y] at h4
        refine br_f (by omega) (mIn_i (by omega) (by omega) ?_)
        have e1 : mupd m' 42 (m' 0 14) z 0 14 = cn := by rw [mupd_ne _ _ _ (by decide), h2]
        rw [e1, w32_s (z := cn + 1) (by omega) (by omega), h2]
        refine h4 _ ?_ ?_ ?_ (fun x x0 x1 => ?_)
        · refine ⟨fun k hk => ?_, ?_, ?_⟩
          · rw [mupd_ne _ _ _ (by omega), mupd_ne _ _ _ (by omega), h0.1 k hk]
          · rw [mupd_at, fup_ne _ _ (by decide), mupd_ne _ _ _ (by decide), h0.2.1]
          · rw [mupd_at, fup_ne _ _ (by decide), mupd_ne _ _ _ (by decide), h0.2.2]
        · exact T_eq h1 (fun k a b => by rw [mupd_ne _ _ _ (by omega), mupd_ne _ _ _ (by omega)]) (by rw [mupd_ne _ _ _ (by omega), mupd_ne _ _ _ (by omega)]) (by rw [mupd_ne _ _ _ (by omega), mupd_ne _ _ _ (by omega)])
        · rw [mupd_at, fup_at]
        · rw [mupd_ne _ _ _ (by decide), mupd_at]
          unfold fup
          split
          · rfl
          · exact h3 x x0 (by omega)
  refine loop 36 0 (by omega) _ ?_ ?_ ?_ (fun x x0 x1 => ?_)
  · refine ⟨fun k hk => ?_, ?_, ?_⟩
    · rw [mupd_ne _ _ _ (by omega), cpy_ne m (by omega), hm.1 k hk]
    · rw [mupd_at, fup_ne _ _ (by decide), cpy_ne m (by omega), hm.2.1]
    · rw [mupd_at, fup_ne _ _ (by decide), cpy_ne m (by omega), hm.2.2]
  · exact T_eq t0 (fun k a b => by rw [mupd_ne _ _ _ (by omega)]) (by rw [mupd_ne _ _ _ (by omega)]) (by rw [mupd_ne _ _ _ (by omega)])
  · rw [mupd_at, fup_at]
    rfl
  · have e : cO (M 2) 4 0 = 0 := rfl
    omega
theorem M_holes (d : Nat) {M m : mMem} (hg : Pg M 1 0) (m54 : ∀ i : Int, 0 ≤ i → i < 85 → m 54 i = M 54 i) : mI3 (d + 1) 174 [vr 53] m (fun v m' => FrM m' m ∧ m' 54 = m 54 ∧ m' 53 24 = cO (M 2) 4 36 ∧ (∀ i : Int, 0 ≤ i → i < cO (M 2) 4 36 → m' 61 i = hoF (M 2) 36 i) ∧ v = b2 (4 < cO (M 2) 4 36)) := by
  have hp := Pg0_of hg
  refine mI3_i ⟨by decide, Nat.le_of_ble_eq_true rfl⟩ (fun K hK => q_M_isTooMany_0 hK m ?_)
  have loop : ∀ (j i : Nat), i + j = 36 → ∀ m' : mMem, FrM m' m → m' 54 = m 54 → m' 53 24 = cO (M 2) 4 i → (∀ x : Int, 0 ≤ x → x < cO (M 2) 4 i → m' 61 x = hoF (M 2) i x) → K 7 [(0, vr 53), (1, vi (i : Int))] [] (S0, m') := by
    intro j
    induction j with
    | zero =>
      intro i hi m' h0 h1 h2 h3
      rw [show i = 36 by omega] at h2 h3 ⊢
      refine q_M_isTooMany_7 hK _ m' (br_t (by decide) ⟨fun q => rI_i ⟨h0, h1, h2, h3, ?_⟩, fun q => rI_i ⟨h0, h1, h2, h3, ?_⟩⟩)
      · rw [b2_f (by omega)]
      · rw [b2_t (by omega)]
    | succ j ih =>
      intro i hi m' h0 h1 h2 h3
      have h4 := ih (i + 1) (by omega)
      have r0 := cO_rng (M 2) 4 i
      rw [cO_s] at h4
      rw [hoF_s] at h4
      generalize cO (M 2) 4 i = cn at h2 h3 h4 r0
      generalize hoF (M 2) i = H at h3 h4
      have hz : ∃ z : Int, z = (i : Int) := ⟨_, rfl⟩
      obtain ⟨z, hz⟩ := hz
      have ez : ((i + 1 : Nat) : Int) = z + 1 := by omega
      rw [ez, ← hz] at h4
      rw [← hz] at r0
      rw [← hz]
      have zb : 0 ≤ z ∧ z < 36 := by omega
      clear hz ez hi ih
      have ew : w32 (z + 1) = z + 1 := w32_s (by omega) (by omega)
      have mz : m' 54 z = M 2 z := by rw [h1, m54 z zb.1 (by omega), hp.1 z zb.1 zb.2]
      refine q_M_isTooMany_7 hK _ m' (br_f (by omega) ?_)
      rw [ew, mz]
      refine mIn_i (by omega) (by omega) ⟨fun y => ?_, fun y => ?_⟩
      · rw [b2_f y, if_neg y, Int.add_zero] at h4
        exact h4 m' h0 h1 h2 h3
      · have y := Decidable.not_not.mp y
        rw [b2_t y, if_pos y] at h4
        refine mIn_i (by omega) (by omega) ?_
        have e1 : mupd m' 61 (m' 53 24) z 53 24 = cn := by rw [mupd_ne _ _ _ (by decide), h2]
        rw [e1, w32_s (z := cn + 1) (by omega) (by omega), h2]
        refine h4 _ (FrM_53 (FrM_trans ⟨fun k _ _ _ a _ => mupd_ne _ _ _ a, ?_, ?_, ?_, ?_, fun i _ _ => ?_⟩ h0) (by decide) (by decide) (by decide) (by decide)) ?_ ?_ (fun x x0 x1 => ?_)
        · rw [mupd_ne _ _ _ (by decide)]
        · rw [mupd_ne _ _ _ (by decide)]
        · rw [mupd_ne _ _ _ (by decide)]
        · rw [mupd_ne _ _ _ (by decide)]
        · rw [mupd_ne _ _ _ (by decide)]
        · rw [mupd_ne _ _ _ (by decide), mupd_ne _ _ _ (by decide), h1]
        · rw [mupd_at, fup_at]
        · rw [mupd_ne _ _ _ (by decide), mupd_at]
          unfold fup
          split
          · rfl
          · exact h3 x x0 (by omega)
  refine loop 36 0 (by omega) _ (FrM_53 (FrM_refl m) (by decide) (by decide) (by decide) (by decide)) ?_ ?_ (fun x x0 x1 => ?_)
  · rw [mupd_ne _ _ _ (by decide)]
  · rw [mupd_at, fup_at]
    rfl
  · have e : cO (M 2) 4 0 = 0 := rfl
    omega
end
section
/-! PURE PROOFS 43: what fits -/
def fiF (f H : Int → Int) (q : Int) : Nat → Int → Int
  | 0 => f
  | i + 1 => fup (fiF f H q i) (H (i : Nat)) (jand (jshr q (w32 (2 * ((i : Nat) : Int)))) 3)
theorem fiF_s (f H : Int → Int) (q : Int) (i : Nat) : fiF f H q (i + 1) = fup (fiF f H q i) (H (i : Nat)) (jand (jshr q (w32 (2 * ((i : Nat) : Int)))) 3) := rfl
theorem fiF_ext (f g H : Int → Int) (q : Int) : ∀ (n : Nat) (i : Int), (f i = g i ∨ ∃ j : Nat, j < n ∧ i = H j) → fiF f H q n i = fiF g H q n i
  | 0, i, h => by
    rcases h with h | ⟨j, h, _⟩
    · exact h
    · exact absurd h (by omega)
  | n + 1, i, h => by
    rw [fiF_s, fiF_s]
    by_cases z : i = H n
    · rw [z, fup_at, fup_at]
    · rw [fup_ne _ _ z, fup_ne _ _ z]
      refine fiF_ext f g H q n i ?_
      rcases h with h | ⟨j, h1, h2⟩
      · exact Or.inl h
      · refine Or.inr ⟨j, ?_, h2⟩
        by_cases y : j = n
        · rw [y] at h2
          exact absurd h2 z
        · omega
theorem fiF_out (f H : Int → Int) (q : Int) : ∀ (n : Nat) (i : Int), (∀ j : Nat, j < n → i ≠ H j) → fiF f H q n i = f i
  | 0, _, _ => rfl
  | n + 1, i, h => by
    rw [fiF_s, fup_ne _ _ (h n (by omega))]
    exact fiF_out f H q n i (fun j hj => h j (by omega))
def seB (M : mMem) (g : Int → Int) : Nat → Int
  | 0 => 1
  | i + 1 => if seB M g i = 1 ∧ M 40 (i : Nat) < M 1 5 ∧ rdL (M 4) g (M 40 (i : Nat)) = M 41 (i : Nat) then 1 else 0
theorem seB_s (M : mMem) (g : Int → Int) (i : Nat) : seB M g (i + 1) = if seB M g i = 1 ∧ M 40 (i : Nat) < M 1 5 ∧ rdL (M 4) g (M 40 (i : Nat)) = M 41 (i : Nat) then 1 else 0 := rfl
theorem seB_01 (M : mMem) (g : Int → Int) : ∀ i : Nat, seB M g i = 0 ∨ seB M g i = 1
  | 0 => Or.inr rfl
  | i + 1 => by
    rw [seB_s]
    split
    · exact Or.inr rfl
    · exact Or.inl rfl
theorem seB_0 (M : mMem) (g : Int → Int) (i : Nat) (h : seB M g i = 0) : ∀ j : Nat, seB M g (i + j) = 0
  | 0 => h
  | j + 1 => by
    have e := seB_0 M g i h j
    show seB M g (i + j + 1) = 0
    rw [seB_s, e, if_neg (by omega)]
theorem b3_rng (x : Int) : 0 ≤ jand x 3 ∧ jand x 3 ≤ 4 := by
  rw [jand_3]
  omega
theorem L_fits (d : Nat) {M m : mMem} {g H : Int → Int} {cn ns : Nat} (hc : Cht M 1) (h4 : cn ≤ 4) (hH : ∀ i : Int, 0 ≤ i → i < cn → 0 ≤ H i ∧ H i < 36) (hm : FrL m M) (ht : TrC m M g (M 3)) (hg : ∀ i : Int, 0 ≤ i → i < 36 → (∀ j : Nat, j < cn → i ≠ H j) → g i = M 2 i) (h14 : m 0 14 = cn) (h42 : ∀ i : Int, 0 ≤ i → i < cn → m 42 i = H i) (hs : SeI M) (hn : M 0 13 = ns) (q : Int) : mI3 (d + 3) 111 [vr 0, vi q] m (fun v m' => v = seB M (fiF (M 2) H q cn) ns ∧ TrC m' M (fiF (M 2) H q cn) (M 3) ∧ ∀ k : Nat, (k < 9 ∨ 17 ≤ k) → m' k = m k) := by
  have n6 : 0 ≤ M 0 13 ∧ M 0 13 ≤ 6 := hs.1
  refine mI3_i ⟨by decide, Nat.le_of_ble_eq_true rfl⟩ (fun K hK => q_L_fits_0 hK q m ?_)
  have l2 : ∀ m' : mMem, TrC m' M (fiF (M 2) H q cn) (M 3) → (∀ k : Nat, (k < 9 ∨ 17 ≤ k) → m' k = m k) → ∀ (j i : Nat), i + j = ns → seB M (fiF (M 2) H q cn) i = 1 → K 38 [(0, vr 0), (2, vi (i : Int))] [] (S0, m') := by
    intro m' h1 h2 j
    have e13 : m' 0 13 = M 0 13 := by rw [h2 0 (by omega), hm.2.1]
    have e40 : m' 40 = M 40 := by rw [h2 40 (by omega), hm.1 40 (by omega)]
    have e41 : m' 41 = M 41 := by rw [h2 41 (by omega), hm.1 41 (by omega)]
    have e5 : m' 9 5 = M 1 5 := h1.2.2.2.2.1
    induction j with
    | zero =>
      intro i hi h3
      rw [show i = ns by omega] at h3 ⊢
      exact q_L_fits_38 hK _ m' (br_t (by rw [e13, hn]; exact Int.le_refl _) (rI_i ⟨h3.symm, h1, h2⟩))
    | succ j ih =>
      intro i hi h3
      have h5 := ih (i + 1) (by omega)
      have z0 := seB_0 M (fiF (M 2) H q cn) (i + 1)
      have ss := seB_s M (fiF (M 2) H q cn) i
      have z0 := fun w => z0 w j
      rw [show i + 1 + j = ns by omega] at z0
      generalize seB M (fiF (M 2) H q cn) (i + 1) = s' at h5 ss z0
      rw [h3] at ss
      have g := hs.2.2 (i : Int) (by omega) (by omega)
      have hz : ∃ z : Int, z = (i : Int) := ⟨_, rfl⟩
      obtain ⟨z, hz⟩ := hz
      have ez : ((i + 1 : Nat) : Int) = z + 1 := by omega
      rw [ez] at h5
      rw [← hz] at ss g
      rw [← hz]
      have zb : 0 ≤ z ∧ z < M 0 13 := by omega
      clear hz ez hi ih
      have ew : w32 (z + 1) = z + 1 := w32_s (by omega) (by omega)
      have g1 : (0 ≤ M 40 z ∧ M 40 z ≤ 4) := g.2.2.1
      refine q_L_fits_38 hK _ m' (br_f (by rw [e13]; omega) ?_)
      rw [e40, e5, ew]
      refine mIn_i (by omega) (by omega) ⟨fun y => rI_i ⟨?_, h1, h2⟩, fun y => mIn_i (by omega) (by omega) ⟨_, _, T_reads d h1 (by omega), ?_⟩⟩
      · rw [if_neg (by omega)] at ss
        exact (z0 ss).symm
      · rw [e41]
        refine mIn_i (by omega) (by omega) ⟨fun y2 => ?_, fun y2 => rI_i ⟨?_, h1, h2⟩⟩
        · rw [if_pos ⟨rfl, by omega, y2⟩] at ss
          exact h5 ss
        · rw [if_neg (fun w => y2 w.2.2)] at ss
          exact (z0 ss).symm
  have l1 : ∀ (j i : Nat), i + j = cn → ∀ m' : mMem, TrC m' M (fiF g H q i) (M 3) → (∀ k : Nat, (k < 9 ∨ 17 ≤ k) → m' k = m k) → K 2 [(0, vr 0), (1, vi q), (2, vi (i : Int))] [] (S0, m') := by
    intro j
    induction j with
    | zero =>
      intro i hi m' h1 h2
      have e14 : m' 0 14 = cn := by rw [h2 0 (by omega), h14]
      rw [show i = cn by omega] at h1 ⊢
      refine q_L_fits_2 hK _ _ m' (br_t (by rw [e14]; exact Int.le_refl _) (l2 m' (T_cong h1 (fun z a b => ?_)) h2 ns 0 (by omega) rfl))
      refine fiF_ext g (M 2) H q cn z ?_
      by_cases y : ∀ j : Nat, j < cn → z ≠ H j
      · exact Or.inl (hg z a b y)
      · refine Or.inr (Classical.byContradiction (fun w => y (fun j hj e => w ⟨j, hj, e⟩)))
    | succ j ih =>
      intro i hi m' h1 h2
      have h5 := ih (i + 1) (by omega)
      have e14 : m' 0 14 = cn := by rw [h2 0 (by omega), h14]
      rw [fiF_s] at h5
      have hz : ∃ z : Int, z = (i : Int) := ⟨_, rfl⟩
      obtain ⟨z, hz⟩ := hz
      have ez : ((i + 1 : Nat) : Int) = z + 1 := by omega
      rw [ez, ← hz] at h5
      rw [← hz]
      have zb : 0 ≤ z ∧ z < cn ∧ z < 4 := by omega
      generalize fiF g H q i = g' at h1 h5
      clear hz ez hi ih
      have ew : w32 (z + 1) = z + 1 := w32_s (by omega) (by omega)
      have e42 : m' 42 z = H z := by rw [h2 42 (by omega), h42 _ (by omega) (by omega)]
      have hb := hH z (by omega) (by omega)
      have vb := b3_rng (jshr q (w32 (2 * z)))
      refine q_L_fits_2 hK _ _ m' (br_f (by rw [e14]; omega) ?_)
      rw [e42, ew]
      refine mIn_i (by omega) (by omega) ⟨_, R_put d m' 9 (by omega) (H z) _ hb vb h1.1.1.1, h5 _ (T_put h1 hb vb) (fun k hk => ?_)⟩
      rw [put_ne _ _ _ _ (by omega) (by omega) (by omega), h2 k hk]
  exact l1 cn 0 (by omega) m ht (fun _ _ => rfl)
end
section
/-! PURE PROOFS 44: what fits, on the page -/
theorem M_fit (d : Nat) {M m : mMem} {H : Int → Int} {cn ns : Nat} (hg : Pg M 1 0) (hc : Cht M 1) (h4 : cn ≤ 4) (hH : ∀ i : Int, 0 ≤ i → i < cn → 0 ≤ H i ∧ H i < 36) (m54 : ∀ i : Int, 0 ≤ i → i < 85 → m 54 i = M 54 i) (h24 : m 53 24 = cn) (h61 : ∀ i : Int, 0 ≤ i → i < cn → m 61 i = H i) (hs : SeI M) (hn : M 0 13 = ns) (m22 : m 53 22 = M 53 22) (m60 : m 60 = M 60) (q : Int) : mI3 (d + 3) 176 [vr 53, vi q] m (fun v m' => v = seB M (fiF (M 2) H q cn) ns ∧ PgC m' M 340 (fiF (M 2) H q cn) (M 3) ∧ (∀ k : Nat, k ≠ 54 → m' k = m k) ∧ FrM m' m) := by
  have hp := Pg0_of hg
  have n6 : 0 ≤ M 0 13 ∧ M 0 13 ≤ 6 := hs.1
  have s22 : M 53 22 = M 0 13 := hs.2.1
  have b5 : 0 ≤ M 1 5 ∧ M 1 5 ≤ 5 := hc.2.1
  refine mI3_i ⟨by decide, Nat.le_of_ble_eq_true rfl⟩ (fun K hK => q_M_isFit_0 hK q m ⟨_, R_copies (d + 1) m 0 340 (by omega) (by omega) (by omega), ?_⟩)
  have l2 : ∀ m' : mMem, PgC m' M 340 (fiF (M 2) H q cn) (M 3) → (∀ k : Nat, k ≠ 54 → m' k = m k) → FrM m' m → ∀ (j i : Nat), i + j = ns → ∀ s : Int, s = seB M (fiF (M 2) H q cn) i → K 50 [(0, vr 53), (2, vi s), (3, vi (i : Int))] [] (S0, m') := by
    intro m' h1 h2 h3 j
    have e22 : m' 53 22 = M 0 13 := by rw [h2 53 (by decide), m22, s22]
    have e60 : m' 60 = M 60 := by rw [h2 60 (by decide), m60]
    have e39 : m' 54 39 = M 1 5 := by rw [h3.2.2.2.2.2 39 (by decide) (by decide), m54 39 (by decide) (by decide), hp.2.2.1]
    induction j with
    | zero =>
      intro i hi s hs'
      rw [show i = ns by omega] at hs' ⊢
      have b := seB_01 M (fiF (M 2) H q cn) ns
      exact q_M_isFit_50 hK _ _ m' (br_t (by rw [e22, hn]; exact Int.le_refl _) (mBo_i (by rw [hs']; exact b) (rI_i ⟨hs', h1, h2, h3⟩)))
    | succ j ih =>
      intro i hi s hs'
      have h5 := ih (i + 1) (by omega)
      have b := seB_01 M (fiF (M 2) H q cn) i
      rw [seB_s, ← hs'] at h5
      rw [← hs'] at b
      have g := hs.2.2 (i : Int) (by omega) (by omega)
      have hz : ∃ z : Int, z = (i : Int) := ⟨_, rfl⟩
      obtain ⟨z, hz⟩ := hz
      have ez : ((i + 1 : Nat) : Int) = z + 1 := by omega
      rw [ez, ← hz] at h5
      rw [← hz] at g
      rw [← hz]
      have zb : 0 ≤ z ∧ z < M 0 13 := by omega
      clear hz ez hi ih hs'
      have ew : w32 (z + 1) = z + 1 := w32_s (by omega) (by omega)
      have w2 : w32 (2 * z) = 2 * z := w32_s (by omega) (by omega)
      have w3 : w32 (2 * z + 1) = 2 * z + 1 := w32_s (by omega) (by omega)
      have g1 : (0 ≤ M 40 z ∧ M 40 z ≤ 4) := g.2.2.1
      have g0 : M 60 (2 * z) = M 40 z := g.1
      have g2 : M 60 (2 * z + 1) = M 41 z := g.2.1
      refine q_M_isFit_50 hK _ _ m' (br_f (by rw [e22]; omega) ?_)
      rw [e60, ew, w2, w3, g0]
      refine ⟨fun y => ?_, fun y => ?_⟩
      · refine h5 0 ?_
        rw [if_neg (by omega)]
      · have y : s = 1 := by omega
        refine mIn_i (by omega) (by omega) ⟨_, _, R_mIsLaw d m' _ (by rw [e39]; exact b5), fun y2 => ?_, fun y2 => ?_⟩
        · have y2 := b2_0.mp y2
          rw [e39] at y2
          refine h5 0 ?_
          rw [if_neg (by omega)]
        · have y2 := b2_n0.mp y2
          rw [e39] at y2
          rw [e60, g0]
          refine mIn_i (by omega) (by omega) ⟨_, _, G_reads d h1 (by omega) hc y2, ?_⟩
          rw [e60, g2]
          refine mIn_i (by omega) (by omega) ⟨fun y3 => ?_, fun y3 => ?_⟩
          · refine h5 0 ?_
            rw [if_neg (fun w => y3 w.2.2)]
          · refine h5 1 ?_
            rw [if_pos ⟨y, y2.2, Decidable.not_not.mp y3⟩]
  have l1 : ∀ (j i : Nat), i + j = cn → ∀ m' : mMem, PgC m' M 340 (fiF (M 2) H q i) (M 3) → (∀ k : Nat, k ≠ 54 → m' k = m k) → FrM m' m → K 10 [(0, vr 53), (1, vi q), (2, vi (i : Int))] [] (S0, m') := by
    intro j
    induction j with
    | zero =>
      intro i hi m' h1 h2 h3
      have e24 : m' 53 24 = cn := by rw [h2 53 (by decide), h24]
      rw [show i = cn by omega] at h1 ⊢
      exact q_M_isFit_10 hK _ _ m' (br_t (by rw [e24]; exact Int.le_refl _) (l2 m' h1 h2 h3 ns 0 (by omega) 1 rfl))
    | succ j ih =>
      intro i hi m' h1 h2 h3
      have h5 := ih (i + 1) (by omega)
      have e24 : m' 53 24 = cn := by rw [h2 53 (by decide), h24]
      rw [fiF_s] at h5
      have hz : ∃ z : Int, z = (i : Int) := ⟨_, rfl⟩
      obtain ⟨z, hz⟩ := hz
      have ez : ((i + 1 : Nat) : Int) = z + 1 := by omega
      rw [ez, ← hz] at h5
      rw [← hz]
      have zb : 0 ≤ z ∧ z < cn ∧ z < 4 := by omega
      generalize fiF (M 2) H q i = g' at h1 h5
      clear hz ez hi ih
      have ew : w32 (z + 1) = z + 1 := w32_s (by omega) (by omega)
      have e61 : m' 61 z = H z := by rw [h2 61 (by decide), h61 _ (by omega) (by omega)]
      have hb := hH z (by omega) (by omega)
      have w1 : w32 (340 + H z) = 340 + H z := w32_s (by omega) (by omega)
      refine q_M_isFit_10 hK _ _ m' (br_f (by rw [e24]; omega) ?_)
      rw [e61, ew, w1]
      refine mIn_i (by omega) (by omega) (mIn_i (by omega) (by omega) (h5 _ (G_set h1 hc hb) (fun k hk => ?_) (FrM_set h3 (by omega))))
      rw [mupd_ne _ _ _ hk, h2 k hk]
  exact l1 cn 0 (by omega) _ (G_copy hg hc m54) (fun k hk => mcpy_ne _ _ _ _ _ hk) (FrM_cpy (FrM_refl m) (by decide))
end
section
/-! PURE PROOFS 45: fills -/
def HoL (M m : mMem) (H : Int → Int) (cn : Nat) : Prop := FrL m M ∧ (∃ g, TrC m M g (M 3) ∧ ∀ i : Int, 0 ≤ i → i < 36 → (∀ j : Nat, j < cn → i ≠ H j) → g i = M 2 i) ∧ m 0 14 = cn ∧ ∀ i : Int, 0 ≤ i → i < cn → m 42 i = H i
def HoM (M m0 m : mMem) (H : Int → Int) (cn : Nat) : Prop := FrM m m0 ∧ (∀ i : Int, 0 ≤ i → i < 85 → m 54 i = M 54 i) ∧ m 53 24 = cn ∧ (∀ i : Int, 0 ≤ i → i < cn → m 61 i = H i) ∧ m 53 22 = M 53 22 ∧ m 60 = M 60
def HoOK (M : mMem) (H : Int → Int) (cn ns : Nat) : Prop := cn ≤ 4 ∧ (∀ i : Int, 0 ≤ i → i < cn → 0 ≤ H i ∧ H i < 36) ∧ M 0 13 = ns
def fiN (M : mMem) (H : Int → Int) (cn : Nat) (q : Int) : Int → Int := fiF (M 2) H q cn
def ftN (M : mMem) (H : Int → Int) (cn ns : Nat) (q : Int) : Int := seB M (fiF (M 2) H q cn) ns
theorem ftN_01 (M : mMem) (H : Int → Int) (cn ns : Nat) (q : Int) : ftN M H cn ns q = 0 ∨ ftN M H cn ns q = 1 := seB_01 M _ ns
theorem L_fit2 (d : Nat) {M m : mMem} {H : Int → Int} {cn ns : Nat} (hc : Cht M 1) (hs : SeI M) (ok : HoOK M H cn ns) (h : HoL M m H cn) (q : Int) : mI3 (d + 3) 111 [vr 0, vi q] m (fun v m' => v = ftN M H cn ns q ∧ TrC m' M (fiN M H cn q) (M 3) ∧ HoL M m' H cn ∧ ∀ k : Nat, (k < 9 ∨ 17 ≤ k) → m' k = m k) := by
  obtain ⟨h1, ⟨g, h2, h3⟩, h4, h5⟩ := h
  obtain ⟨v, m', ⟨p1, p2, p3⟩, r⟩ := L_fits d hc ok.1 ok.2.1 h1 h2 h3 h4 h5 hs ok.2.2 q
  refine ⟨v, m', ⟨p1, p2, ⟨FrL_row h1 (fun k a _ _ _ _ _ => p3 k a), ⟨_, p2, fun i a b w => fiF_out _ _ _ _ _ w⟩, ?_, fun i a b => ?_⟩, p3⟩, r⟩
  · rw [p3 0 (by omega), h4]
  · rw [p3 42 (by omega), h5 i a b]
theorem M_fit2 (d : Nat) {M m0 m : mMem} {H : Int → Int} {cn ns : Nat} (hg : Pg M 1 0) (hc : Cht M 1) (hs : SeI M) (ok : HoOK M H cn ns) (h : HoM M m0 m H cn) (q : Int) : mI3 (d + 3) 176 [vr 53, vi q] m (fun v m' => v = ftN M H cn ns q ∧ PgC m' M 340 (fiN M H cn q) (M 3) ∧ HoM M m0 m' H cn ∧ ∀ k : Nat, k ≠ 54 → m' k = m k) := by
  obtain ⟨h1, h2, h3, h4, h5, h6⟩ := h
  obtain ⟨v, m', ⟨p1, p2, p3, p4⟩, r⟩ := M_fit d hg hc ok.1 ok.2.1 h2 h3 h4 hs ok.2.2 h5 h6 q
  refine ⟨v, m', ⟨p1, p2, ⟨FrM_trans p4 h1, fun i a b => ?_, ?_, fun i a b => ?_, ?_, ?_⟩, p3⟩, r⟩
  · rw [p4.2.2.2.2.2 i a (by omega), h2 i a b]
  · rw [p3 53 (by decide), h3]
  · rw [p3 61 (by decide), h4 i a b]
  · rw [p3 53 (by decide), h5]
  · rw [p3 60 (by decide), h6]
theorem fc_v : ∀ c : Nat, c < 5 → jshl 1 (w32 (2 * (c : Int))) = ((4 ^ c : Nat) : Int) := by decide +kernel
theorem fc_b : ∀ c : Nat, c < 5 → 4 ^ c ≤ 256 := by decide +kernel
theorem L_fc (d : Nat) {m : mMem} {cn : Nat} (h : m 0 14 = cn) (h4 : cn ≤ 4) : mR3 (d + 1) 110 [vr 0] (S0, m) (some (vi ((4 ^ cn : Nat) : Int)), (S0, m)) := by
  refine ⟨⟨by decide, Nat.le_of_ble_eq_true rfl⟩, fun K hK => q_L_fillCount_0 hK m ?_⟩
  rw [h, fc_v cn (by omega)]
  exact mret_i rfl rfl
theorem M_fc (d : Nat) {m : mMem} {cn : Nat} (h : m 53 24 = cn) (h4 : cn ≤ 4) : mR3 (d + 1) 175 [vr 53] (S0, m) (some (vi ((4 ^ cn : Nat) : Int)), (S0, m)) := by
  refine ⟨⟨by decide, Nat.le_of_ble_eq_true rfl⟩, fun K hK => q_M_fillMany_0 hK m ?_⟩
  rw [h, fc_v cn (by omega)]
  exact mret_i rfl rfl
theorem ho_get {M : mMem} (hs : SeI M) : (4 < cO (M 2) 4 36) ∨ ∃ cn ns : Nat, cO (M 2) 4 36 = cn ∧ HoOK M (hoF (M 2) 36) cn ns := by
  by_cases q : 4 < cO (M 2) 4 36
  · exact Or.inl q
  · have r := cO_rng (M 2) 4 36
    have n6 : 0 ≤ M 0 13 ∧ M 0 13 ≤ 6 := hs.1
    have e : cO (M 2) 4 36 = ((cO (M 2) 4 36).toNat : Int) := by omega
    refine Or.inr ⟨(cO (M 2) 4 36).toNat, (M 0 13).toNat, e, by omega, fun i a b => ?_, by omega⟩
    have g := hoF_rng (M 2) 36 i a (by omega)
    omega
theorem L_ho (d : Nat) {M m : mMem} {cn : Nat} (hc : Cht M 1) (hm : FrL m M) (hcn : cO (M 2) 4 36 = cn) (h4 : cn ≤ 4) : mI3 (d + 2) 109 [vr 0] m (fun v m' => v = 1 ∧ HoL M m' (hoF (M 2) 36) cn) := by
  obtain ⟨v, m', ⟨p1, p2⟩, r⟩ := L_holes d hc hm
  rw [hcn] at p2
  rcases p2 with ⟨a, _⟩ | ⟨_, e, t, f, g⟩
  · exact absurd a (by omega)
  · exact ⟨v, m', ⟨e, p1, ⟨M 2, t, fun i _ _ _ => rfl⟩, f, g⟩, r⟩
theorem L_ho0 (d : Nat) {M m : mMem} (hc : Cht M 1) (hm : FrL m M) (h : 4 < cO (M 2) 4 36) : mI3 (d + 2) 109 [vr 0] m (fun v m' => v = 0 ∧ FrL m' M) := by
  obtain ⟨v, m', ⟨p1, p2⟩, r⟩ := L_holes d hc hm
  rcases p2 with ⟨_, a⟩ | ⟨a, _⟩
  · exact ⟨v, m', ⟨a, p1⟩, r⟩
  · exact absurd a (by omega)
theorem M_ho (d : Nat) {M m : mMem} {cn : Nat} (hg : Pg M 1 0) (m54 : ∀ i : Int, 0 ≤ i → i < 85 → m 54 i = M 54 i) (m22 : m 53 22 = M 53 22) (m60 : m 60 = M 60) (hcn : cO (M 2) 4 36 = cn) (h4 : cn ≤ 4) : mI3 (d + 1) 174 [vr 53] m (fun v m' => v = 0 ∧ HoM M m m' (hoF (M 2) 36) cn) := by
  obtain ⟨v, m', ⟨p1, p2, p3, p4, p5⟩, r⟩ := M_holes d hg m54
  rw [hcn] at p3 p4 p5
  refine ⟨v, m', ⟨?_, p1, fun i a b => ?_, p3, p4, ?_, ?_⟩, r⟩
  · rw [p5, b2_f (by omega)]
  · rw [p2, m54 i a b]
  · rw [p1.2.2.2.1, m22]
  · rw [p1.1 60 (by decide) (by decide) (by decide) (by decide) (by decide), m60]
theorem M_ho0 (d : Nat) {M m : mMem} (hg : Pg M 1 0) (m54 : ∀ i : Int, 0 ≤ i → i < 85 → m 54 i = M 54 i) (h : 4 < cO (M 2) 4 36) : mI3 (d + 1) 174 [vr 53] m (fun v m' => v = 1 ∧ FrM m' m ∧ m' 54 = m 54) := by
  obtain ⟨v, m', ⟨p1, p2, p3, p4, p5⟩, r⟩ := M_holes d hg m54
  exact ⟨v, m', ⟨by rw [p5, b2_t h], p1, p2⟩, r⟩
def flS (M : mMem) (H : Int → Int) (cn ns : Nat) (n : Nat) : Int := sm (fun q => ftN M H cn ns (q : Nat)) n
theorem flS_s (M : mMem) (H : Int → Int) (cn ns n : Nat) : flS M H cn ns (n + 1) = flS M H cn ns n + ftN M H cn ns (n : Nat) := rfl
theorem flS_rng (M : mMem) (H : Int → Int) (cn ns n : Nat) : 0 ≤ flS M H cn ns n ∧ flS M H cn ns n ≤ n := sm_rng (fun k => by
  have h := ftN_01 M H cn ns (k : Nat)
  omega) n
theorem M_fills (d : Nat) {M m0 : mMem} {cn ns : Nat} (hg : Pg M 1 0) (hc : Cht M 1) (hs : SeI M) (ok : HoOK M (hoF (M 2) 36) cn ns) (hcn : cO (M 2) 4 36 = cn) (m54 : ∀ i : Int, 0 ≤ i → i < 85 → m0 54 i = M 54 i) (m22 : m0 53 22 = M 53 22) (m60 : m0 60 = M 60) : mI3 (d + 4) 177 [vr 53] m0 (fun v m' => v = flS M (hoF (M 2) 36) cn ns (4 ^ cn) ∧ HoM M m0 m' (hoF (M 2) 36) cn) := by
  have nb := fc_b cn (by have := ok.1; omega)
  refine mI3_i ⟨by decide, Nat.le_of_ble_eq_true rfl⟩ (fun K hK => q_M_fills_0 hK m0 (cI (M_ho (d + 2) hg m54 m22 m60 hcn ok.1) (fun v m1 p => ?_)))
  refine br_t p.1 ?_
  have loop : ∀ (j i : Nat), i + j = 4 ^ cn → ∀ m' : mMem, HoM M m0 m' (hoF (M 2) 36) cn → K 14 [(0, vr 53), (1, vi (flS M (hoF (M 2) 36) cn ns i)), (2, vi (i : Int))] [] (S0, m') := by
    intro j
    induction j with
    | zero =>
      intro i hi m' h1
      rw [show i = 4 ^ cn by omega]
      exact q_M_fills_14 hK _ _ m' ⟨_, _, M_fc (d + 2) h1.2.2.1 ok.1, br_t (Int.le_refl _) (rI_i ⟨rfl, h1⟩)⟩
    | succ j ih =>
      intro i hi m' h1
      have h4 := ih (i + 1) (by omega)
      have r := flS_rng M (hoF (M 2) 36) cn ns i
      rw [flS_s] at h4
      have ew : w32 ((i : Int) + 1) = ((i + 1 : Nat) : Int) := by rw [w32_s (by omega) (by omega)]; omega
      have lt : ¬ ((4 ^ cn : Nat) : Int) ≤ (i : Int) := by omega
      generalize flS M (hoF (M 2) 36) cn ns i = s at h4 r
      have w0 : w32 (s + 0) = s := by rw [w32_s (by omega) (by omega), Int.add_zero]
      have w1 : w32 (s + 1) = s + 1 := w32_s (by omega) (by omega)
      refine q_M_fills_14 hK _ _ m' ⟨_, _, M_fc (d + 2) h1.2.2.1 ok.1, br_f lt (cI (M_fit2 d hg hc hs ok h1 (i : Int)) (fun v m2 p => ?_))⟩
      obtain ⟨p1, p2, p3, _⟩ := p
      have b := ftN_01 M (hoF (M 2) 36) cn ns (i : Int)
      rw [ew, w0, w1]
      refine ⟨fun q => ?_, fun q => ?_⟩
      · rw [← p1, q, Int.add_zero] at h4
        exact h4 m2 p3
      · rw [← p1] at b h4
        rw [show v = 1 by omega] at h4
        exact h4 m2 p3
  exact loop (4 ^ cn) 0 (by omega) m1 p.2
theorem P_fills {M : mMem} (h : Inv M) : PairI 75 177 [] M := by
  have hc := h.1
  have hs := h.2.2.2.2.2.1
  rcases ho_get hs with big | ⟨cn, ns, hcn, ok⟩
  · refine ask_pair (V := -2) h ?_ (fun m hm => ?_)
    · exact mI3_i ⟨by decide, Nat.le_of_ble_eq_true rfl⟩ (fun K hK => q_L_fills_0 hK M (cI (L_ho0 7 hc (FrL_refl M) big) (fun v m1 p => br_f (fun q => q p.1) (rI_i ⟨rfl, p.2⟩))))
    · exact mI3_i ⟨by decide, Nat.le_of_ble_eq_true rfl⟩ (fun K hK => q_M_fills_0 hK m (cI (M_ho0 8 h.2.1 (fun i a b => by rw [(FrL_lo hm).2]) big) (fun v m1 p => br_f (by rw [p.1]; decide) (rI_i ⟨rfl, p.2.1⟩))))
  · have nb := fc_b cn (by have := ok.1; omega)
    refine ask_pair (V := flS M (hoF (M 2) 36) cn ns (4 ^ cn)) h ?_ (fun m hm => ?_)
    · refine mI3_i ⟨by decide, Nat.le_of_ble_eq_true rfl⟩ (fun K hK => q_L_fills_0 hK M (cI (L_ho 7 hc (FrL_refl M) hcn ok.1) (fun v m1 p => ?_)))
      have loop : ∀ (j i : Nat), i + j = 4 ^ cn → ∀ m' : mMem, HoL M m' (hoF (M 2) 36) cn → K 19 [(0, vr 0), (1, vi (flS M (hoF (M 2) 36) cn ns i)), (2, vi ((4 ^ cn : Nat) : Int)), (3, vi (i : Int))] [] (S0, m') := by
        intro j
        induction j with
        | zero =>
          intro i hi m' h1
          rw [show i = 4 ^ cn by omega]
          exact q_L_fills_19 hK _ _ _ m' (br_t (Int.le_refl _) (rI_i ⟨rfl, h1.1⟩))
        | succ j ih =>
          intro i hi m' h1
          have h4 := ih (i + 1) (by omega)
          have r := flS_rng M (hoF (M 2) 36) cn ns i
          rw [flS_s] at h4
          have ew : w32 ((i : Int) + 1) = ((i + 1 : Nat) : Int) := by rw [w32_s (by omega) (by omega)]; omega
          have lt : ¬ ((4 ^ cn : Nat) : Int) ≤ (i : Int) := by omega
          generalize flS M (hoF (M 2) 36) cn ns i = s at h4 r
          have w1 : w32 (s + 1) = s + 1 := w32_s (by omega) (by omega)
          refine q_L_fills_19 hK _ _ _ m' (br_f lt (cI (L_fit2 6 hc hs ok h1 (i : Int)) (fun v m2 p => ?_)))
          obtain ⟨p1, p2, p3, _⟩ := p
          have b := ftN_01 M (hoF (M 2) 36) cn ns (i : Int)
          rw [ew, w1]
          refine ⟨fun q => ?_, fun q => ?_⟩
          · rw [← p1, q, Int.add_zero] at h4
            exact h4 m2 p3
          · rw [← p1] at b h4
            rw [show v = 1 by omega] at h4
            exact h4 m2 p3
      exact br_t (by rw [p.1]; decide) ⟨_, _, L_fc 8 p.2.2.2.1 ok.1, loop (4 ^ cn) 0 (by omega) m1 p.2⟩
    · obtain ⟨v, m', ⟨p1, p2⟩, r⟩ := M_fills 6 h.2.1 hc hs ok hcn (m0 := m) (fun i a b => by rw [(FrL_lo hm).2]) (by rw [hm.1 53 (by omega)]) (hm.1 60 (by omega))
      exact ⟨v, m', ⟨p1, p2.1⟩, r⟩
end
section
/-! PURE PROOFS 46: shades, span -/
def shS (M : mMem) (H : Int → Int) (cn ns : Nat) (t : Int) : Nat → Int
  | 0 => 0
  | q + 1 => if ftN M H cn ns (q : Nat) = 0 then shS M H cn ns t q else jor (shS M H cn ns t q) (jshl 1 (fiN M H cn (q : Nat) t))
theorem shS_s (M : mMem) (H : Int → Int) (cn ns : Nat) (t : Int) (q : Nat) : shS M H cn ns t (q + 1) = if ftN M H cn ns (q : Nat) = 0 then shS M H cn ns t q else jor (shS M H cn ns t q) (jshl 1 (fiN M H cn (q : Nat) t)) := rfl
theorem shS_in (M : mMem) (H : Int → Int) (cn ns : Nat) (t : Int) : ∀ q : Nat, inR (shS M H cn ns t q)
  | 0 => inR_0
  | q + 1 => by
    rw [shS_s]
    split
    · exact shS_in M H cn ns t q
    · exact jor_in _ _
theorem P_shades {M : mMem} (h : Inv M) (x y : Int) : PairI 76 178 [vi x, vi y] M := by
  have hc := h.1
  have hp := Pg0_of h.2.1
  have hs := h.2.2.2.2.2.1
  by_cases c : 0 ≤ x ∧ x < 6 ∧ 0 ≤ y ∧ y < 6
  · have ht : 0 ≤ 6 * x + y ∧ 6 * x + y < 36 := by omega
    have i1 : w32 (w32 (6 * x) + y) = 6 * x + y := by rw [w32_s (z := 6 * x) (by omega) (by omega), w32_s (by omega) (by omega)]
    have i2 : w32 (w32 (340 + w32 (6 * x)) + y) = 340 + (6 * x + y) := by
      rw [w32_s (z := 6 * x) (by omega) (by omega), w32_s (z := 340 + 6 * x) (by omega) (by omega), w32_s (by omega) (by omega)]
      omega
    have cl := R_isCell 8 M x y
    have pl := R_place 8 M (x := x) (y := y) (by omega) (by omega)
    generalize 6 * x + y = t at ht i1 i2 pl
    have g1 : M 54 t = M 2 t := hp.1 _ ht.1 ht.2
    rcases ho_get hs with big | ⟨cn, ns, hcn, ok⟩
    · refine ask_pair (V := -2) h ?_ (fun m hm => ?_)
      · exact mI3_i ⟨by decide, Nat.le_of_ble_eq_true rfl⟩ (fun K hK => q_L_shades_0 hK x y M ⟨_, _, cl, br_t (b2_n0.mpr c) ⟨_, _, pl, mIn_i ht.1 (by omega) ⟨fun q => rI_i ⟨rfl, FrL_refl M⟩, fun q => cI (L_ho0 7 hc (FrL_refl M) big) (fun v m1 p => br_f (fun q => q p.1) (rI_i ⟨rfl, p.2⟩))⟩⟩⟩)
      · exact mI3_i ⟨by decide, Nat.le_of_ble_eq_true rfl⟩ (fun K hK => q_M_shades_0 hK x y m ⟨_, _, R_mIsCell 7 m x y, br_t (b2_n0.mpr c) (cI (M_ho0 8 h.2.1 (fun i a b => by rw [(FrL_lo hm).2]) big) (fun v m1 p => br_t (by rw [p.1]; decide) (rI_i ⟨rfl, p.2.1⟩)))⟩)
    · have nb := fc_b cn (by have := ok.1; omega)
      by_cases c2 : M 2 t = 4
      · refine ask_pair (V := shS M (hoF (M 2) 36) cn ns t (4 ^ cn)) h ?_ (fun m hm => ?_)
        · refine mI3_i ⟨by decide, Nat.le_of_ble_eq_true rfl⟩ (fun K hK => q_L_shades_0 hK x y M ⟨_, _, cl, br_t (b2_n0.mpr c) ⟨_, _, pl, mIn_i ht.1 (by omega) (br_f (fun q => q c2) (cI (L_ho 7 hc (FrL_refl M) hcn ok.1) (fun v m1 p => ?_)))⟩⟩)
          have loop : ∀ (j i : Nat), i + j = 4 ^ cn → ∀ m' : mMem, HoL M m' (hoF (M 2) 36) cn → K 51 [(0, vr 0), (3, vi t), (4, vi (shS M (hoF (M 2) 36) cn ns t i)), (5, vi ((4 ^ cn : Nat) : Int)), (6, vi (i : Int))] [] (S0, m') := by
            intro j
            induction j with
            | zero =>
              intro i hi m' h1
              rw [show i = 4 ^ cn by omega]
              exact q_L_shades_51 hK _ _ _ _ m' (br_t (Int.le_refl _) (rI_i ⟨rfl, h1.1⟩))
            | succ j ih =>
              intro i hi m' h1
              have h4 := ih (i + 1) (by omega)
              rw [shS_s] at h4
              have ew : w32 ((i : Int) + 1) = ((i + 1 : Nat) : Int) := by rw [w32_s (by omega) (by omega)]; omega
              have lt : ¬ ((4 ^ cn : Nat) : Int) ≤ (i : Int) := by omega
              refine q_L_shades_51 hK _ _ _ _ m' (br_f lt (cI (L_fit2 6 hc hs ok h1 (i : Int)) (fun v m2 p => ?_)))
              obtain ⟨p1, p2, p3, _⟩ := p
              rw [ew]
              have mt : m2 10 t = fiN M (hoF (M 2) 36) cn (i : Int) t := p2.2.1 t ht.1 ht.2
              rw [mt]
              rw [← p1] at h4
              refine ⟨fun q => ?_, fun q => mIn_i ht.1 (by omega) ?_⟩
              · rw [if_pos q] at h4
                exact h4 m2 p3
              · rw [if_neg q] at h4
                exact h4 m2 p3
          exact br_t (by rw [p.1]; decide) ⟨_, _, L_fc 8 p.2.2.2.1 ok.1, loop (4 ^ cn) 0 (by omega) m1 p.2⟩
        · have m54 := (FrL_lo hm).2
          refine mI3_i ⟨by decide, Nat.le_of_ble_eq_true rfl⟩ (fun K hK => q_M_shades_0 hK x y m ⟨_, _, R_mIsCell 7 m x y, br_t (b2_n0.mpr c) (cI (M_ho 8 h.2.1 (fun i a b => by rw [m54]) (by rw [hm.1 53 (by omega)]) (hm.1 60 (by omega)) hcn ok.1) (fun v m1 p => ?_))⟩)
          have loop : ∀ (j i : Nat), i + j = 4 ^ cn → ∀ m' : mMem, HoM M m m' (hoF (M 2) 36) cn → K 40 [(0, vr 53), (1, vi x), (2, vi y), (3, vi (shS M (hoF (M 2) 36) cn ns t i)), (4, vi (i : Int))] [] (S0, m') := by
            intro j
            induction j with
            | zero =>
              intro i hi m' h1
              rw [show i = 4 ^ cn by omega]
              exact q_M_shades_40 hK _ _ _ _ m' ⟨_, _, M_fc 8 h1.2.2.1 ok.1, br_t (Int.le_refl _) (rI_i ⟨rfl, h1.1⟩)⟩
            | succ j ih =>
              intro i hi m' h1
              have h4 := ih (i + 1) (by omega)
              rw [shS_s] at h4
              have ew : w32 ((i : Int) + 1) = ((i + 1 : Nat) : Int) := by rw [w32_s (by omega) (by omega)]; omega
              have lt : ¬ ((4 ^ cn : Nat) : Int) ≤ (i : Int) := by omega
              have j0 := jor_0 (shS_in M (hoF (M 2) 36) cn ns t i)
              refine q_M_shades_40 hK _ _ _ _ m' ⟨_, _, M_fc 8 h1.2.2.1 ok.1, br_f lt (cI (M_fit2 6 h.2.1 hc hs ok h1 (i : Int)) (fun v m2 p => ?_))⟩
              obtain ⟨p1, p2, p3, _⟩ := p
              have mt : m2 54 (340 + t) = fiN M (hoF (M 2) 36) cn (i : Int) t := p2.1 t ht.1 ht.2
              rw [ew, i2, mt, j0]
              rw [← p1] at h4
              refine ⟨fun q => ?_, fun q => mIn_i (by omega) (by omega) ?_⟩
              · rw [if_pos q] at h4
                exact h4 m2 p3
              · rw [if_neg q] at h4
                exact h4 m2 p3
          have m1t : m1 54 t = 4 := by rw [p.2.2.1 t ht.1 (by omega), g1, c2]
          rw [i1, m1t]
          exact br_f (fun q => q p.1) (mIn_i ht.1 (by omega) (br_t rfl (loop (4 ^ cn) 0 (by omega) m1 p.2)))
      · refine ask_pair (V := -2) h ?_ (fun m hm => ?_)
        · exact mI3_i ⟨by decide, Nat.le_of_ble_eq_true rfl⟩ (fun K hK => q_L_shades_0 hK x y M ⟨_, _, cl, br_t (b2_n0.mpr c) ⟨_, _, pl, mIn_i ht.1 (by omega) (br_t c2 (rI_i ⟨rfl, FrL_refl M⟩))⟩⟩)
        · have m54 := (FrL_lo hm).2
          refine mI3_i ⟨by decide, Nat.le_of_ble_eq_true rfl⟩ (fun K hK => q_M_shades_0 hK x y m ⟨_, _, R_mIsCell 7 m x y, br_t (b2_n0.mpr c) (cI (M_ho 8 h.2.1 (fun i a b => by rw [m54]) (by rw [hm.1 53 (by omega)]) (hm.1 60 (by omega)) hcn ok.1) (fun v m1 p => ?_))⟩)
          have m1t : m1 54 t = M 2 t := by rw [p.2.2.1 t ht.1 (by omega), g1]
          rw [i1, m1t]
          exact br_f (fun q => q p.1) (mIn_i ht.1 (by omega) (br_f c2 (rI_i ⟨rfl, p.2.1⟩)))
  · exact ⟨-1, M, M, ⟨⟨by decide, Nat.le_of_ble_eq_true rfl⟩, fun K hK => q_L_shades_0 hK x y M ⟨_, _, R_isCell 8 M x y, br_f (fun q => c (b2_n0.mp q)) (mret_i rfl rfl)⟩⟩, ⟨⟨by decide, Nat.le_of_ble_eq_true rfl⟩, fun K hK => q_M_shades_0 hK x y M ⟨_, _, R_mIsCell 7 M x y, br_f (fun q => c (b2_n0.mp q)) (mret_i rfl rfl)⟩⟩, h⟩
def spL (M : mMem) (H : Int → Int) (cn ns k : Nat) : Nat → Int
  | 0 => -4
  | q + 1 => if ftN M H cn ns (q : Nat) = 0 then spL M H cn ns k q else if spL M H cn ns k q = -4 ∨ woS (M 4) (fiN M H cn (q : Nat)) k < spL M H cn ns k q then woS (M 4) (fiN M H cn (q : Nat)) k else spL M H cn ns k q
def spG (M : mMem) (H : Int → Int) (cn ns k : Nat) : Nat → Int
  | 0 => -4
  | q + 1 => if ftN M H cn ns (q : Nat) = 0 then spG M H cn ns k q else if woS (M 4) (fiN M H cn (q : Nat)) k ≤ spG M H cn ns k q then spG M H cn ns k q else woS (M 4) (fiN M H cn (q : Nat)) k
theorem spL_s (M : mMem) (H : Int → Int) (cn ns k q : Nat) : spL M H cn ns k (q + 1) = if ftN M H cn ns (q : Nat) = 0 then spL M H cn ns k q else if spL M H cn ns k q = -4 ∨ woS (M 4) (fiN M H cn (q : Nat)) k < spL M H cn ns k q then woS (M 4) (fiN M H cn (q : Nat)) k else spL M H cn ns k q := rfl
theorem spG_s (M : mMem) (H : Int → Int) (cn ns k q : Nat) : spG M H cn ns k (q + 1) = if ftN M H cn ns (q : Nat) = 0 then spG M H cn ns k q else if woS (M 4) (fiN M H cn (q : Nat)) k ≤ spG M H cn ns k q then spG M H cn ns k q else woS (M 4) (fiN M H cn (q : Nat)) k := rfl
theorem P_span {M : mMem} (h : Inv M) (x : Int) : PairI 77 179 [vi x] M := by
  have hc := h.1
  have hs := h.2.2.2.2.2.1
  have n5 : 0 ≤ M 1 5 ∧ M 1 5 ≤ 5 := hc.2.1
  obtain ⟨k, hk⟩ : ∃ k : Nat, M 1 5 = k := ⟨(M 1 5).toNat, by omega⟩
  have k5 : k ≤ 5 := by omega
  have hL := hc.2.2.1
  rw [hk] at hL
  by_cases c : x = 0 ∨ x = 1
  · rcases ho_get hs with big | ⟨cn, ns, hcn, ok⟩
    · refine ask_pair (V := -2) h ?_ (fun m hm => ?_)
      · exact mI3_i ⟨by decide, Nat.le_of_ble_eq_true rfl⟩ (fun K hK => q_L_span_0 hK x M ⟨_, _, R_isPart 8 M x, br_t (b2_n0.mpr c) (cI (L_ho0 7 hc (FrL_refl M) big) (fun v m1 p => br_f (fun q => q p.1) (rI_i ⟨rfl, p.2⟩)))⟩)
      · exact mI3_i ⟨by decide, Nat.le_of_ble_eq_true rfl⟩ (fun K hK => q_M_span_0 hK x m ⟨_, _, R_in 8 _ _ _ _, br_t (b2_n0.mpr (by omega)) (cI (M_ho0 8 h.2.1 (fun i a b => by rw [(FrL_lo hm).2]) big) (fun v m1 p => br_f (by rw [p.1]; decide) (rI_i ⟨rfl, p.2.1⟩)))⟩)
    · have nb := fc_b cn (by have := ok.1; omega)
      refine ask_pair (V := if x ≠ 0 then spG M (hoF (M 2) 36) cn ns k (4 ^ cn) else spL M (hoF (M 2) 36) cn ns k (4 ^ cn)) h ?_ (fun m hm => ?_)
      · refine mI3_i ⟨by decide, Nat.le_of_ble_eq_true rfl⟩ (fun K hK => q_L_span_0 hK x M ⟨_, _, R_isPart 8 M x, br_t (b2_n0.mpr c) (cI (L_ho 7 hc (FrL_refl M) hcn ok.1) (fun v m1 p => ?_))⟩)
        have loop : ∀ (j i : Nat), i + j = 4 ^ cn → ∀ (m' : mMem) (s : Int), (s = if x ≠ 0 then spG M (hoF (M 2) 36) cn ns k i else spL M (hoF (M 2) 36) cn ns k i) → HoL M m' (hoF (M 2) 36) cn → K 30 [(0, vr 0), (1, vi x), (2, vi s), (3, vi ((4 ^ cn : Nat) : Int)), (4, vi (i : Int))] [] (S0, m') := by
          intro j
          induction j with
          | zero =>
            intro i hi m' s h0 h1
            rw [show i = 4 ^ cn by omega] at h0 ⊢
            exact q_L_span_30 hK _ _ _ _ m' (br_t (Int.le_refl _) (rI_i ⟨h0, h1.1⟩))
          | succ j ih =>
            intro i hi m' s h0 h1
            have h4 := ih (i + 1) (by omega)
            rw [spL_s, spG_s] at h4
            have ew : w32 ((i : Int) + 1) = ((i + 1 : Nat) : Int) := by rw [w32_s (by omega) (by omega)]; omega
            have lt : ¬ ((4 ^ cn : Nat) : Int) ≤ (i : Int) := by omega
            refine q_L_span_30 hK _ _ _ _ m' (br_f lt (cI (L_fit2 6 hc hs ok h1 (i : Int)) (fun v m2 p => ?_)))
            obtain ⟨p1, p2, p3, _⟩ := p
            rw [ew]
            rw [← p1] at h4
            have wr := woS_rng (f := fiN M (hoF (M 2) 36) cn (i : Int)) hL
            have tw := T_worth 6 p2 hk k5
            generalize woS (M 4) (fiN M (hoF (M 2) 36) cn (i : Int)) k = w at wr tw h4
            generalize spG M (hoF (M 2) 36) cn ns k i = sG at h0 h4
            generalize spL M (hoF (M 2) 36) cn ns k i = sL at h0 h4
            refine ⟨fun q => ?_, fun q => ⟨_, _, tw, ?_⟩⟩
            · rw [if_pos q, if_pos q] at h4
              exact h4 m2 s h0 p3
            · rw [if_neg q, if_neg q] at h4
              have fin : ∀ a : Int, (a = if x ≠ 0 then (if w ≤ sG then sG else w) else (if sL = -4 ∨ w < sL then w else sL)) → K 30 [(0, vr 0), (1, vi x), (2, vi a), (3, vi ((4 ^ cn : Nat) : Int)), (4, vi ((i + 1 : Nat) : Int))] [] (S0, m2) := fun a ha => h4 m2 a ha p3
              clear h4 ih
              by_cases y : x ≠ 0
              · rw [if_pos y] at h0
                refine ⟨fun z => q_L_span_63 hK _ _ _ _ _ m2 (br_t y ?_), fun z => q_L_span_63 hK _ _ _ _ _ m2 (br_t y ?_)⟩
                · rw [ew]
                  refine fin _ ?_
                  rw [if_pos y]
                  split <;> split <;> omega
                · rw [ew]
                  refine fin _ ?_
                  rw [if_pos y]
                  split <;> split <;> omega
              · rw [if_neg y] at h0
                refine ⟨fun z => q_L_span_63 hK _ _ _ _ _ m2 (br_f y ?_), fun z => q_L_span_63 hK _ _ _ _ _ m2 (br_f y ?_)⟩
                · rw [ew]
                  refine fin _ ?_
                  rw [if_neg y]
                  split <;> split <;> omega
                · rw [ew]
                  refine fin _ ?_
                  rw [if_neg y]
                  split <;> split <;> omega
        refine br_t (by rw [p.1]; decide) ⟨_, _, L_fc 8 p.2.2.2.1 ok.1, loop (4 ^ cn) 0 (by omega) m1 (-4) ?_ p.2⟩
        split <;> rfl
      · have m54 := (FrL_lo hm).2
        refine mI3_i ⟨by decide, Nat.le_of_ble_eq_true rfl⟩ (fun K hK => q_M_span_0 hK x m ⟨_, _, R_in 8 _ _ _ _, br_t (b2_n0.mpr (by omega)) (cI (M_ho 8 h.2.1 (fun i a b => by rw [m54]) (by rw [hm.1 53 (by omega)]) (hm.1 60 (by omega)) hcn ok.1) (fun v m1 p => ?_))⟩)
        have loop : ∀ (j i : Nat), i + j = 4 ^ cn → ∀ (m' : mMem), HoM M m m' (hoF (M 2) 36) cn → K 31 [(0, vr 53), (1, vi x), (2, vi (spL M (hoF (M 2) 36) cn ns k i)), (3, vi (spG M (hoF (M 2) 36) cn ns k i)), (4, vi (i : Int))] [] (S0, m') := by
          intro j
          induction j with
          | zero =>
            intro i hi m' h1
            rw [show i = 4 ^ cn by omega]
            refine q_M_span_31 hK _ _ _ _ m' ⟨_, _, M_fc 8 h1.2.2.1 ok.1, br_t (Int.le_refl _) ⟨fun q => rI_i ⟨?_, h1.1⟩, fun q => rI_i ⟨?_, h1.1⟩⟩⟩
            · rw [if_pos q]
            · rw [if_neg q]
          | succ j ih =>
            intro i hi m' h1
            have h4 := ih (i + 1) (by omega)
            rw [spL_s, spG_s] at h4
            have ew : w32 ((i : Int) + 1) = ((i + 1 : Nat) : Int) := by rw [w32_s (by omega) (by omega)]; omega
            have lt : ¬ ((4 ^ cn : Nat) : Int) ≤ (i : Int) := by omega
            refine q_M_span_31 hK _ _ _ _ m' ⟨_, _, M_fc 8 h1.2.2.1 ok.1, br_f lt (cI (M_fit2 6 h.2.1 hc hs ok h1 (i : Int)) (fun v m2 p => ?_))⟩
            obtain ⟨p1, p2, p3, _⟩ := p
            rw [ew]
            rw [← p1] at h4
            have tw := G_worth 6 p2 (by omega) hc hk k5
            have h4 := h4 m2 p3
            generalize woS (M 4) (fiN M (hoF (M 2) 36) cn (i : Int)) k = w at tw h4
            generalize spG M (hoF (M 2) 36) cn ns k i = sG at h4
            generalize spL M (hoF (M 2) 36) cn ns k i = sL at h4
            refine ⟨fun q => ?_, fun q => ⟨_, _, tw, ?_⟩⟩
            · rw [if_pos q, if_pos q] at h4
              exact h4
            · rw [if_neg q, if_neg q] at h4
              have k76 : ∀ s0 : Int, s0 = (if sL = -4 ∨ w < sL then w else sL) → K 76 [(0, vr 53), (1, vi x), (3, vi sG), (4, vi (i : Int)), (5, vi w)] [vi s0] (S0, m2) := by
                intro s0 e0
                refine q_M_span_76 hK _ _ _ _ _ m2 ⟨fun z => ?_, fun z => ?_⟩
                · rw [if_pos z, ← e0] at h4
                  rw [ew]
                  exact h4
                · rw [if_neg z, ← e0] at h4
                  rw [ew]
                  exact h4
              refine ⟨fun z => k76 _ ?_, fun z => ⟨fun z2 => k76 _ ?_, fun z2 => k76 _ ?_⟩⟩
              · rw [if_pos (Or.inl z)]
              · rw [if_neg (by omega)]
              · rw [if_pos (by omega)]
        exact br_t p.1 (loop (4 ^ cn) 0 (by omega) m1 p.2)
  · exact ⟨-1, M, M, ⟨⟨by decide, Nat.le_of_ble_eq_true rfl⟩, fun K hK => q_L_span_0 hK x M ⟨_, _, R_isPart 8 M x, br_f (fun q => c (b2_n0.mp q)) (mret_i rfl rfl)⟩⟩, ⟨⟨by decide, Nat.le_of_ble_eq_true rfl⟩, fun K hK => q_M_span_0 hK x M ⟨_, _, R_in 8 _ _ _ _, br_f (fun q => c (by have q := b2_n0.mp q; omega)) (mret_i rfl rfl)⟩⟩, h⟩
end
section
/-! PURE PROOFS 47: groups of fills -/
def gc (M : mMem) (H : Int → Int) (cn ns : Nat) (l n : Int) : Nat → Int
  | 0 => 0
  | q + 1 => if ftN M H cn ns (q : Nat) = 0 then gc M H cn ns l n q else gc M H cn ns l n q + b2 (rdL (M 4) (fiN M H cn (q : Nat)) l = n)
theorem gc_s (M : mMem) (H : Int → Int) (cn ns : Nat) (l n : Int) (q : Nat) : gc M H cn ns l n (q + 1) = if ftN M H cn ns (q : Nat) = 0 then gc M H cn ns l n q else gc M H cn ns l n q + b2 (rdL (M 4) (fiN M H cn (q : Nat)) l = n) := rfl
theorem gc_rng (M : mMem) (H : Int → Int) (cn ns : Nat) (l n : Int) : ∀ q : Nat, 0 ≤ gc M H cn ns l n q ∧ gc M H cn ns l n q ≤ q
  | 0 => ⟨Int.le_refl _, Int.le_refl _⟩
  | q + 1 => by
    have h := gc_rng M H cn ns l n q
    have b := b2_01 (rdL (M 4) (fiN M H cn (q : Nat)) l = n)
    rw [gc_s]
    split <;> omega
def lgM (g : Int → Int) : Nat → Int
  | 0 => 0
  | n + 1 => if lgM g n ≤ g (n : Nat) then g (n : Nat) else lgM g n
theorem lgM_s (g : Int → Int) (n : Nat) : lgM g (n + 1) = if lgM g n ≤ g (n : Nat) then g (n : Nat) else lgM g n := rfl
theorem lgM_mx (g : Int → Int) : ∀ n : Nat, 0 ≤ lgM g n ∧ (∀ i : Int, 0 ≤ i → i < n → g i ≤ lgM g n) ∧ (lgM g n = 0 ∨ ∃ i : Int, 0 ≤ i ∧ i < n ∧ g i = lgM g n)
  | 0 => ⟨Int.le_refl _, fun i a b => absurd b (by omega), Or.inl rfl⟩
  | n + 1 => by
    obtain ⟨h0, h1, h2⟩ := lgM_mx g n
    rw [lgM_s]
    by_cases q : lgM g n ≤ g (n : Nat)
    · rw [if_pos q]
      refine ⟨by omega, fun i a b => ?_, Or.inr ⟨(n : Nat), by omega, by omega, rfl⟩⟩
      by_cases z : i = (n : Nat)
      · rw [z]
        exact Int.le_refl _
      · have := h1 i a (by omega)
        omega
    · rw [if_neg q]
      refine ⟨h0, fun i a b => ?_, ?_⟩
      · by_cases z : i = (n : Nat)
        · rw [z]
          omega
        · exact h1 i a (by omega)
      · rcases h2 with h2 | ⟨i, a, b, e⟩
        · exact Or.inl h2
        · exact Or.inr ⟨i, a, by omega, e⟩
def woM (M : mMem) (H : Int → Int) (cn ns : Nat) (l : Int) : Nat → Int
  | 0 => 0
  | q + 1 => if ftN M H cn ns (q : Nat) = 0 then woM M H cn ns l q else if gc M H cn ns l (rdL (M 4) (fiN M H cn (q : Nat)) l) (q + 1) ≤ woM M H cn ns l q then woM M H cn ns l q else gc M H cn ns l (rdL (M 4) (fiN M H cn (q : Nat)) l) (q + 1)
theorem woM_s (M : mMem) (H : Int → Int) (cn ns : Nat) (l : Int) (q : Nat) : woM M H cn ns l (q + 1) = if ftN M H cn ns (q : Nat) = 0 then woM M H cn ns l q else if gc M H cn ns l (rdL (M 4) (fiN M H cn (q : Nat)) l) (q + 1) ≤ woM M H cn ns l q then woM M H cn ns l q else gc M H cn ns l (rdL (M 4) (fiN M H cn (q : Nat)) l) (q + 1) := rfl
theorem woM_mx (M : mMem) (H : Int → Int) (cn ns : Nat) (l : Int) : ∀ q : Nat, 0 ≤ woM M H cn ns l q ∧ (∀ n : Int, gc M H cn ns l n q ≤ woM M H cn ns l q) ∧ (woM M H cn ns l q = 0 ∨ ∃ n : Int, 0 ≤ n ∧ n < 61 ∧ gc M H cn ns l n q = woM M H cn ns l q)
  | 0 => ⟨Int.le_refl _, fun _ => Int.le_refl _, Or.inl rfl⟩
  | q + 1 => by
    obtain ⟨h0, h1, h2⟩ := woM_mx M H cn ns l q
    rw [woM_s]
    by_cases z : ftN M H cn ns (q : Nat) = 0
    · have e : ∀ n, gc M H cn ns l n (q + 1) = gc M H cn ns l n q := fun n => by rw [gc_s, if_pos z]
      rw [if_pos z]
      refine ⟨h0, fun n => by rw [e n]; exact h1 n, ?_⟩
      rcases h2 with h2 | ⟨n, a, b, c⟩
      · exact Or.inl h2
      · exact Or.inr ⟨n, a, b, by rw [e n]; exact c⟩
    · have e : ∀ n, gc M H cn ns l n (q + 1) = gc M H cn ns l n q + b2 (rdL (M 4) (fiN M H cn (q : Nat)) l = n) := fun n => by rw [gc_s, if_neg z]
      have rr := rdL_rng (M 4) (fiN M H cn (q : Nat)) l
      rw [if_neg z]
      generalize rdL (M 4) (fiN M H cn (q : Nat)) l = r at e rr
      have er := e r
      rw [b2_t rfl] at er
      have eo : ∀ n, n ≠ r → gc M H cn ns l n (q + 1) = gc M H cn ns l n q := fun n hn => by rw [e n, b2_f (fun w => hn w.symm), Int.add_zero]
      have hr := h1 r
      by_cases y : gc M H cn ns l r (q + 1) ≤ woM M H cn ns l q
      · rw [if_pos y]
        refine ⟨h0, fun n => ?_, ?_⟩
        · by_cases w : n = r
          · rw [w]
            exact y
          · rw [eo n w]
            exact h1 n
        · rcases h2 with h2 | ⟨n, a, b, c⟩
          · exact Or.inl h2
          · by_cases w : n = r
            · rw [w] at c
              exact absurd y (by omega)
            · exact Or.inr ⟨n, a, b, by rw [eo n w]; exact c⟩
      · rw [if_neg y]
        refine ⟨by omega, fun n => ?_, Or.inr ⟨r, rr.1, by omega, rfl⟩⟩
        by_cases w : n = r
        · rw [w]
          exact Int.le_refl _
        · rw [eo n w]
          have := h1 n
          omega
theorem lg_wo (M : mMem) (H : Int → Int) (cn ns : Nat) (l : Int) (q : Nat) : lgM (fun n => gc M H cn ns l n q) 61 = woM M H cn ns l q := by
  obtain ⟨a0, a1, a2⟩ := lgM_mx (fun n => gc M H cn ns l n q) 61
  obtain ⟨b0, b1, b2⟩ := woM_mx M H cn ns l q
  have le1 : lgM (fun n => gc M H cn ns l n q) 61 ≤ woM M H cn ns l q := by
    rcases a2 with a2 | ⟨i, _, _, e⟩
    · omega
    · have := b1 i
      have e : gc M H cn ns l i q = lgM (fun n => gc M H cn ns l n q) 61 := e
      omega
  have le2 : woM M H cn ns l q ≤ lgM (fun n => gc M H cn ns l n q) 61 := by
    rcases b2 with b2 | ⟨i, x, y, e⟩
    · omega
    · have g : gc M H cn ns l i q ≤ lgM (fun n => gc M H cn ns l n q) 61 := a1 i x (by omega)
      omega
  omega
theorem HoL_43 {M m m' : mMem} {H : Int → Int} {cn : Nat} (h : HoL M m H cn) (e : ∀ k : Nat, k ≠ 43 → m' k = m k) : HoL M m' H cn := by
  obtain ⟨h1, ⟨g, h2, h3⟩, h4, h5⟩ := h
  refine ⟨FrL_row h1 (fun k _ _ _ _ a _ => e k a), ⟨g, T_eq h2 (fun k a b => e k (by omega)) (by rw [e 9 (by decide)]) (by rw [e 9 (by decide)]), h3⟩, ?_, fun i a b => ?_⟩
  · rw [e 0 (by decide), h4]
  · rw [e 42 (by decide), h5 i a b]
theorem L_group (d : Nat) {M m : mMem} {H : Int → Int} {cn ns : Nat} (hc : Cht M 1) (hs : SeI M) (ok : HoOK M H cn ns) (hm : HoL M m H cn) : mI3 (d + 4) 112 [vr 0] m (fun v m' => v = flS M H cn ns (4 ^ cn) ∧ HoL M m' H cn ∧ ∀ l n : Int, 0 ≤ l → l < M 1 5 → 0 ≤ n → n < 61 → m' 43 (61 * l + n) = gc M H cn ns l n (4 ^ cn)) := by
  have nb := fc_b cn (by have := ok.1; omega)
  have n5 : 0 ≤ M 1 5 ∧ M 1 5 ≤ 5 := hc.2.1
  obtain ⟨k, hk⟩ : ∃ k : Nat, M 1 5 = k := ⟨(M 1 5).toNat, by omega⟩
  have hs43 : S0.1[43]? = some (0, 305) := by decide +kernel
  refine mI3_i ⟨by decide, Nat.le_of_ble_eq_true rfl⟩ (fun K hK => q_L_groupByReads_0 hK m ⟨_, R_fill (d + 2) S0 m 43 305 0 hs43 (by decide), ?_⟩)
  have loop : ∀ (j i : Nat), i + j = 4 ^ cn → ∀ m' : mMem, HoL M m' H cn → (∀ l n : Int, 0 ≤ l → l < M 1 5 → 0 ≤ n → n < 61 → m' 43 (61 * l + n) = gc M H cn ns l n i) → K 17 [(0, vr 0), (1, vi (flS M H cn ns i)), (2, vi ((4 ^ cn : Nat) : Int)), (3, vi (i : Int))] [] (S0, m') := by
    intro j
    induction j with
    | zero =>
      intro i hi m' h1 h2
      rw [show i = 4 ^ cn by omega] at h2 ⊢
      exact q_L_groupByReads_17 hK _ _ _ m' (br_t (Int.le_refl _) (rI_i ⟨rfl, h1, h2⟩))
    | succ j ih =>
      intro i hi m' h1 h2
      have h4 := ih (i + 1) (by omega)
      have r := flS_rng M H cn ns i
      rw [flS_s] at h4
      have ew : w32 ((i : Int) + 1) = ((i + 1 : Nat) : Int) := by rw [w32_s (by omega) (by omega)]; omega
      have lt : ¬ ((4 ^ cn : Nat) : Int) ≤ (i : Int) := by omega
      have ib : (i : Int) ≤ 256 := by omega
      have gs := fun l n => gc_s M H cn ns l n i
      have gr := fun l n => gc_rng M H cn ns l n i
      generalize flS M H cn ns i = s at h4 r
      have w1 : w32 (s + 1) = s + 1 := w32_s (by omega) (by omega)
      refine q_L_groupByReads_17 hK _ _ _ m' (br_f lt (cI (L_fit2 d hc hs ok h1 (i : Int)) (fun v m2 p => ?_)))
      obtain ⟨p1, p2, p3, p4⟩ := p
      have b := ftN_01 M H cn ns (i : Int)
      rw [ew, w1]
      rw [← p1] at b h4
      have gs : ∀ l n, gc M H cn ns l n (i + 1) = if v = 0 then gc M H cn ns l n i else gc M H cn ns l n i + b2 (rdL (M 4) (fiN M H cn (i : Int)) l = n) := fun l n => by
        rw [p1]
        exact gs l n
      refine ⟨fun q => ?_, fun q => ?_⟩
      · rw [q, Int.add_zero] at h4
        refine h4 m2 p3 (fun l n a b c d => ?_)
        rw [p4 43 (by omega), h2 l n a b c d, gs l n, if_pos q]
      · rw [show v = 1 by omega] at h4
        have inner : ∀ (j2 l : Nat), l + j2 = k → ∀ m3 : mMem, HoL M m3 H cn → TrC m3 M (fiN M H cn (i : Int)) (M 3) → (∀ l' n : Int, 0 ≤ l' → l' < M 1 5 → 0 ≤ n → n < 61 → m3 43 (61 * l' + n) = if l' < (l : Int) then gc M H cn ns l' n (i + 1) else gc M H cn ns l' n i) → K 36 [(0, vr 0), (1, vi (s + 1)), (2, vi ((4 ^ cn : Nat) : Int)), (3, vi (i : Int)), (4, vi (l : Int))] [] (S0, m3) := by
          intro j2
          induction j2 with
          | zero =>
            intro l hl m3 g1 g2 g3
            have e5 : m3 9 5 = M 1 5 := g2.2.2.2.2.1
            refine q_L_groupByReads_36 hK _ _ _ _ m3 (br_t (by omega) ?_)
            rw [ew]
            refine h4 m3 g1 (fun l' n a b c d => ?_)
            rw [g3 l' n a b c d, if_pos (by omega)]
          | succ j2 ih2 =>
            intro l hl m3 g1 g2 g3
            have f4 := ih2 (l + 1) (by omega)
            have e5 : m3 9 5 = M 1 5 := g2.2.2.2.2.1
            have hz : ∃ z : Int, z = (l : Int) := ⟨_, rfl⟩
            obtain ⟨z, hz⟩ := hz
            have ez : ((l + 1 : Nat) : Int) = z + 1 := by omega
            rw [ez] at f4
            rw [← hz] at g3
            rw [← hz]
            have zb : 0 ≤ z ∧ z < M 1 5 := by omega
            clear hz ez hl ih2 h4 ih
            have ez1 : w32 (z + 1) = z + 1 := w32_s (by omega) (by omega)
            have rr := rdL_rng (M 4) (fiN M H cn (i : Int)) z
            have tr := T_reads (d + 1) g2 zb
            refine q_L_groupByReads_36 hK _ _ _ _ m3 (br_f (by omega) ⟨_, _, tr, ?_⟩)
            have gsz := fun n => gs z n
            generalize rdL (M 4) (fiN M H cn (i : Int)) z = rd at rr gsz
            have wi : w32 (w32 (z * 61) + rd) = 61 * z + rd := by
              rw [w32_s (z := z * 61) (by omega) (by omega), w32_s (by omega) (by omega)]
              omega
            have old := g3 z rd zb.1 zb.2 rr.1 (by omega)
            rw [if_neg (by omega)] at old
            have grr := gr z rd
            rw [wi, ez1, old, w32_s (z := gc M H cn ns z rd i + 1) (by omega) (by omega)]
            refine mIn_i (by omega) (by omega) (mIn_i (by omega) (by omega) (f4 _ (HoL_43 g1 (fun k a => mupd_ne _ _ _ a)) (T_eq g2 (fun k a b => mupd_ne _ _ _ (by omega)) (by rw [mupd_ne _ _ _ (by decide)]) (by rw [mupd_ne _ _ _ (by decide)])) (fun l' n a b c d => ?_)))
            rw [mupd_at]
            by_cases y : l' = z
            · rw [y, if_pos (by omega), gsz n, if_neg q]
              by_cases y2 : n = rd
              · rw [y2, fup_at, b2_t rfl]
              · rw [fup_ne _ _ (by omega), b2_f (fun w => y2 w.symm), Int.add_zero, g3 z n zb.1 zb.2 c d, if_neg (by omega)]
            · rw [fup_ne _ _ (by omega), g3 l' n a b c d]
              by_cases y2 : l' < z
              · rw [if_pos y2, if_pos (by omega)]
              · rw [if_neg y2, if_neg (by omega)]
        refine inner k 0 (by omega) m2 p3 p2 (fun l' n a b c d => ?_)
        rw [p4 43 (by omega), h2 l' n a b c d]
        show _ = if l' < 0 then gc M H cn ns l' n (i + 1) else gc M H cn ns l' n i
        rw [if_neg (by omega)]
  have f43 : HoL M (mfill m 43 ((305 : Nat) : Int) 0) H cn := HoL_43 hm (fun k a => mfill_ne _ _ _ a)
  refine ⟨_, _, L_fc (d + 2) f43.2.2.1 ok.1, loop (4 ^ cn) 0 (by omega) _ f43 (fun l n a b c d => ?_)⟩
  rw [mfill_at _ (by omega) (by omega)]
  rfl
end
section
/-! PURE PROOFS 48: ask -/
theorem L_largest (d : Nat) {m : mMem} {g : Int → Int} {l : Int} (hl : 0 ≤ l ∧ l < 5) (hg : ∀ n : Int, 0 ≤ n → n < 61 → m 43 (61 * l + n) = g n) : mR3 (d + 1) 113 [vr 0, vi l] (S0, m) (some (vi (lgM g 61)), (S0, m)) := by
  refine ⟨⟨by decide, Nat.le_of_ble_eq_true rfl⟩, fun K hK => q_L_largestGroup_0 hK l m ?_⟩
  have loop : ∀ (j i : Nat), i + j = 61 → K 4 [(0, vr 0), (1, vi l), (2, vi (lgM g i)), (3, vi (i : Int))] [] (S0, m) := by
    intro j
    induction j with
    | zero =>
      intro i hi
      rw [show i = 61 by omega]
      exact q_L_largestGroup_4 hK _ _ _ m (br_t (by decide) (mret_i rfl rfl))
    | succ j ih =>
      intro i hi
      have h4 := ih (i + 1) (by omega)
      rw [lgM_s] at h4
      generalize lgM g i = s at h4
      have hz : ∃ z : Int, z = (i : Int) := ⟨_, rfl⟩
      obtain ⟨z, hz⟩ := hz
      have ez : ((i + 1 : Nat) : Int) = z + 1 := by omega
      rw [ez, ← hz] at h4
      rw [← hz]
      have zb : 0 ≤ z ∧ z < 61 := by omega
      clear hz ez hi ih
      have ez1 : w32 (z + 1) = z + 1 := w32_s (by omega) (by omega)
      have wi : w32 (w32 (l * 61) + z) = 61 * l + z := by
        rw [w32_s (z := l * 61) (by omega) (by omega), w32_s (by omega) (by omega)]
        omega
      refine q_L_largestGroup_4 hK _ _ _ m (br_f (by omega) ?_)
      rw [wi, ez1, hg z zb.1 zb.2]
      exact mIn_i (by omega) (by omega) h4
  exact loop 61 0 (by omega)
theorem HoM_62 {M m0 m m' : mMem} {H : Int → Int} {cn : Nat} (h : HoM M m0 m H cn) (e : ∀ k : Nat, k ≠ 62 → m' k = m k) : HoM M m0 m' H cn := by
  obtain ⟨h1, h2, h3, h4, h5, h6⟩ := h
  refine ⟨FrM_trans ⟨fun k _ _ _ _ a => e k a, ?_, ?_, ?_, ?_, fun i _ _ => ?_⟩ h1, fun i a b => ?_, ?_, fun i a b => ?_, ?_, ?_⟩
  · rw [e 53 (by decide)]
  · rw [e 53 (by decide)]
  · rw [e 53 (by decide)]
  · rw [e 53 (by decide)]
  · rw [e 54 (by decide)]
  · rw [e 54 (by decide), h2 i a b]
  · rw [e 53 (by decide), h3]
  · rw [e 61 (by decide), h4 i a b]
  · rw [e 53 (by decide), h5]
  · rw [e 60 (by decide), h6]
theorem M_worst (d : Nat) {M m0 m : mMem} {H : Int → Int} {cn ns : Nat} {l : Int} (hg : Pg M 1 0) (hc : Cht M 1) (hs : SeI M) (ok : HoOK M H cn ns) (hl : 0 ≤ l ∧ l < M 1 5) (hm : HoM M m0 m H cn) : mI3 (d + 4) 180 [vr 53, vi l] m (fun v m' => v = woM M H cn ns l (4 ^ cn) ∧ HoM M m0 m' H cn) := by
  have nb := fc_b cn (by have := ok.1; omega)
  refine mI3_i ⟨by decide, Nat.le_of_ble_eq_true rfl⟩ (fun K hK => q_M_worstOf_0 hK l m ?_)
  have l2 : ∀ (j i : Nat), i + j = 4 ^ cn → ∀ m' : mMem, HoM M m0 m' H cn → (∀ n : Int, 0 ≤ n → n < 61 → m' 62 n = gc M H cn ns l n i) → K 25 [(0, vr 53), (1, vi l), (2, vi (woM M H cn ns l i)), (3, vi (i : Int))] [] (S0, m') := by
    intro j
    induction j with
    | zero =>
      intro i hi m' h1 h2
      rw [show i = 4 ^ cn by omega]
      exact q_M_worstOf_25 hK _ _ _ m' ⟨_, _, M_fc (d + 2) h1.2.2.1 ok.1, br_t (Int.le_refl _) (rI_i ⟨rfl, h1⟩)⟩
    | succ j ih =>
      intro i hi m' h1 h2
      have h4 := ih (i + 1) (by omega)
      rw [woM_s] at h4
      have ew : w32 ((i : Int) + 1) = ((i + 1 : Nat) : Int) := by rw [w32_s (by omega) (by omega)]; omega
      have lt : ¬ ((4 ^ cn : Nat) : Int) ≤ (i : Int) := by omega
      have ib : (i : Int) ≤ 256 := by omega
      have gs := fun n => gc_s M H cn ns l n i
      have gr := fun n => gc_rng M H cn ns l n i
      refine q_M_worstOf_25 hK _ _ _ m' ⟨_, _, M_fc (d + 2) h1.2.2.1 ok.1, br_f lt (cI (M_fit2 d hg hc hs ok h1 (i : Int)) (fun v m2 p => ?_))⟩
      obtain ⟨p1, p2, p3, p4⟩ := p
      have b := ftN_01 M H cn ns (i : Int)
      rw [ew]
      rw [← p1] at b h4
      have gs : ∀ n, gc M H cn ns l n (i + 1) = if v = 0 then gc M H cn ns l n i else gc M H cn ns l n i + b2 (rdL (M 4) (fiN M H cn (i : Int)) l = n) := fun n => by
        rw [p1]
        exact gs n
      refine ⟨fun q => ?_, fun q => ⟨_, _, G_reads (d + 1) p2 (by omega) hc hl, ?_⟩⟩
      · rw [if_pos q] at h4
        refine h4 m2 p3 (fun n a b => ?_)
        rw [p4 62 (by decide), h2 n a b, gs n, if_pos q]
      · rw [if_neg q] at h4
        have rr := rdL_rng (M 4) (fiN M H cn (i : Int)) l
        generalize rdL (M 4) (fiN M H cn (i : Int)) l = r at rr gs h4
        have old : m2 62 r = gc M H cn ns l r i := by rw [p4 62 (by decide), h2 r rr.1 (by omega)]
        have grr := gr r
        have gnew : gc M H cn ns l r (i + 1) = gc M H cn ns l r i + 1 := by rw [gs r, if_neg q, b2_t rfl]
        have at62 : mupd m2 62 r (gc M H cn ns l r i + 1) 62 r = gc M H cn ns l r (i + 1) := by rw [mupd_at, fup_at, gnew]
        rw [old, w32_s (z := gc M H cn ns l r i + 1) (by omega) (by omega), at62]
        have nx := h4 (mupd m2 62 r (gc M H cn ns l r i + 1)) (HoM_62 p3 (fun k a => mupd_ne _ _ _ a)) (fun n a b => by
          rw [mupd_at]
          by_cases y : n = r
          · rw [y, fup_at, gnew]
          · rw [fup_ne _ _ y, p4 62 (by decide), h2 n a b, gs n, if_neg q, b2_f (fun w => y w.symm), Int.add_zero])
        refine mIn_i (by omega) (by omega) (mIn_i (by omega) (by omega) (mIn_i (by omega) (by omega) ⟨fun y => ?_, fun y => mIn_i (by omega) (by omega) ?_⟩))
        · rw [if_pos y] at nx
          exact nx
        · rw [if_neg y] at nx
          exact nx
  have l1 : ∀ (j i : Nat), i + j = 61 → ∀ m' : mMem, HoM M m0 m' H cn → (∀ n : Int, 0 ≤ n → n < (i : Int) → m' 62 n = 0) → K 4 [(0, vr 53), (1, vi l), (2, vi 0), (3, vi (i : Int))] [] (S0, m') := by
    intro j
    induction j with
    | zero =>
      intro i hi m' h1 h2
      rw [show i = 61 by omega] at h2 ⊢
      exact q_M_worstOf_4 hK _ _ _ m' (br_t (by decide) (l2 (4 ^ cn) 0 (by omega) m' h1 (fun n a b => h2 n a (by omega))))
    | succ j ih =>
      intro i hi m' h1 h2
      have h4 := ih (i + 1) (by omega)
      have hz : ∃ z : Int, z = (i : Int) := ⟨_, rfl⟩
      obtain ⟨z, hz⟩ := hz
      have ez : ((i + 1 : Nat) : Int) = z + 1 := by omega
      rw [ez] at h4
      rw [← hz] at h2
      rw [← hz]
      have zb : 0 ≤ z ∧ z < 61 := by omega
      clear hz ez hi ih
      have ez1 : w32 (z + 1) = z + 1 := w32_s (by omega) (by omega)
      refine q_M_worstOf_4 hK _ _ _ m' (br_f (by omega) ?_)
      rw [ez1]
      refine mIn_i (by omega) (by omega) (h4 _ (HoM_62 h1 (fun k a => mupd_ne _ _ _ a)) (fun n a b => ?_))
      rw [mupd_at]
      unfold fup
      split
      · rfl
      · exact h2 n a (by omega)
  exact l1 61 0 (by omega) m hm (fun n a b => absurd b (by omega))
end
section
/-! PURE PROOFS 49: ask, the choice -/
def asS (M : mMem) (H : Int → Int) (cn ns : Nat) : Nat → Int × Int
  | 0 => (-4, -(flS M H cn ns (4 ^ cn)))
  | l + 1 => off (asS M H cn ns l) (l : Nat) (-(woM M H cn ns (l : Nat) (4 ^ cn)))
theorem asS_s (M : mMem) (H : Int → Int) (cn ns l : Nat) : asS M H cn ns (l + 1) = off (asS M H cn ns l) (l : Nat) (-(woM M H cn ns (l : Nat) (4 ^ cn))) := rfl
theorem woM_le (M : mMem) (H : Int → Int) (cn ns : Nat) (l : Int) (q : Nat) : 0 ≤ woM M H cn ns l q ∧ woM M H cn ns l q ≤ q := by
  obtain ⟨a, _, b⟩ := woM_mx M H cn ns l q
  refine ⟨a, ?_⟩
  rcases b with b | ⟨n, _, _, b⟩
  · omega
  · have := gc_rng M H cn ns l n q
    omega
theorem asS_rng (M : mMem) (H : Int → Int) (cn ns : Nat) : ∀ l : Nat, -((4 ^ cn : Nat) : Int) ≤ (asS M H cn ns l).2 ∧ (asS M H cn ns l).2 ≤ 0
  | 0 => by
    have h := flS_rng M H cn ns (4 ^ cn)
    show -((4 ^ cn : Nat) : Int) ≤ -(flS M H cn ns (4 ^ cn)) ∧ -(flS M H cn ns (4 ^ cn)) ≤ 0
    omega
  | l + 1 => by
    have h1 := asS_rng M H cn ns l
    have h := woM_le M H cn ns (l : Nat) (4 ^ cn)
    rw [asS_s]
    unfold off
    split
    · exact h1
    · show -((4 ^ cn : Nat) : Int) ≤ -(woM M H cn ns (l : Nat) (4 ^ cn)) ∧ -(woM M H cn ns (l : Nat) (4 ^ cn)) ≤ 0
      omega
theorem HoL_37 {M m m' : mMem} {H : Int → Int} {cn : Nat} (h : HoL M m H cn) (e : ∀ k : Nat, k ≠ 37 → m' k = m k) : HoL M m' H cn := by
  obtain ⟨h1, ⟨g, h2, h3⟩, h4, h5⟩ := h
  refine ⟨FrL_row h1 (fun k _ a _ _ _ _ => e k a), ⟨g, T_eq h2 (fun k a b => e k (by omega)) (by rw [e 9 (by decide)]) (by rw [e 9 (by decide)]), h3⟩, ?_, fun i a b => ?_⟩
  · rw [e 0 (by decide), h4]
  · rw [e 42 (by decide), h5 i a b]
end
section
/-! PURE PROOFS 50: ask, the class -/
/-- so many holes (not for arithmetic) -/
def HcP (M : mMem) (cn : Nat) : Prop := cO (M 2) 4 36 = cn
theorem ask_L {M : mMem} (h : Inv M) {x : Int} (c : x = 0 ∨ x = 1) {cn ns k : Nat} (hk : M 1 5 = k) (hcn : HcP M cn) (ok : HoOK M (hoF (M 2) 36) cn ns) : mI3 10 78 [vr 0, vi x] M (fun v m => v = (if (asS M (hoF (M 2) 36) cn ns k).1 = -4 then (asS M (hoF (M 2) 36) cn ns k).1 else if x ≠ 0 then -(asS M (hoF (M 2) 36) cn ns k).2 else (asS M (hoF (M 2) 36) cn ns k).1) ∧ FrL m M) := by
  have hc := h.1
  have hs := h.2.2.2.2.2.1
  have hp := Pg0_of h.2.1
  have n5 : 0 ≤ M 1 5 ∧ M 1 5 ≤ 5 := hc.2.1
  have wA : ∀ _ : True, w32 (-(asS M (hoF (M 2) 36) cn ns k).2) = -(asS M (hoF (M 2) 36) cn ns k).2 := by
    intro _
    have nb := fc_b cn (by have := ok.1; omega)
    have rg := asS_rng M (hoF (M 2) 36) cn ns k
    generalize (asS M (hoF (M 2) 36) cn ns k).2 = u at rg
    generalize 4 ^ cn = N at rg nb
    exact w32_s (by omega) (by omega)
  have wW : ∀ l : Int, w32 (-(woM M (hoF (M 2) 36) cn ns l (4 ^ cn))) = -(woM M (hoF (M 2) 36) cn ns l (4 ^ cn)) := by
    intro l
    have nb := fc_b cn (by have := ok.1; omega)
    have rg := woM_le M (hoF (M 2) 36) cn ns l (4 ^ cn)
    generalize woM M (hoF (M 2) 36) cn ns l (4 ^ cn) = u at rg
    generalize 4 ^ cn = N at rg nb
    exact w32_s (by omega) (by omega)
  have wf : ∀ _ : True, w32 (-(flS M (hoF (M 2) 36) cn ns (4 ^ cn))) = -(flS M (hoF (M 2) 36) cn ns (4 ^ cn)) := by
    intro _
    have nb := fc_b cn (by have := ok.1; omega)
    have rg := flS_rng M (hoF (M 2) 36) cn ns (4 ^ cn)
    generalize flS M (hoF (M 2) 36) cn ns (4 ^ cn) = u at rg
    generalize 4 ^ cn = N at rg nb
    exact w32_s (by omega) (by omega)
  refine mI3_i ⟨by decide, Nat.le_of_ble_eq_true rfl⟩ (fun K hK => q_L_ask_0 hK x M ⟨_, _, R_isPart 8 M x, br_t (b2_n0.mpr c) (cI (L_ho 7 hc (FrL_refl M) hcn ok.1) (fun v m1 p => ?_))⟩)
  refine br_t (by rw [p.1]; decide) (cI (L_group 5 hc hs ok p.2) (fun v2 m2 p2 => ?_))
  obtain ⟨q1, q2, q3⟩ := p2
  rw [q1, wf trivial]
  refine cN (C_begin 8 m2 _) (fun m3 p3 => ?_)
  have loop : ∀ (j i : Nat), i + j = k → ∀ m' : mMem, HoL M m' (hoF (M 2) 36) cn → (∀ l n : Int, 0 ≤ l → l < M 1 5 → 0 ≤ n → n < 61 → m' 43 (61 * l + n) = gc M (hoF (M 2) 36) cn ns l n (4 ^ cn)) → ChC m' (asS M (hoF (M 2) 36) cn ns i) → K 35 [(0, vr 0), (1, vi x), (3, vi (i : Int))] [] (S0, m') := by
    intro j
    induction j with
    | zero =>
      intro i hi m' h1 h2 h3
      have e5 : m' 1 5 = k := by rw [(FrL_lo h1.1).1 1 (by decide) (by decide), hk]
      rw [show i = k by omega] at h3 ⊢
      refine q_L_ask_35 hK _ _ m' (br_t (by rw [e5]; exact Int.le_refl _) ?_)
      rw [h3.1, h3.2]
      refine ⟨fun q => rI_i ⟨?_, h1.1⟩, fun q => ⟨fun q2 => rI_i ⟨?_, h1.1⟩, fun q2 => rI_i ⟨?_, h1.1⟩⟩⟩
      · rw [if_pos q]
      · rw [if_neg q, if_pos q2]
        exact wA trivial
      · rw [if_neg q, if_neg q2]
    | succ j ih =>
      intro i hi m' h1 h2 h3
      have h4 := ih (i + 1) (by omega)
      have e5 : m' 1 5 = k := by rw [(FrL_lo h1.1).1 1 (by decide) (by decide), hk]
      have ew : w32 ((i : Int) + 1) = ((i + 1 : Nat) : Int) := by rw [w32_s (by omega) (by omega)]; omega
      have lt : ¬ ((k : Nat) : Int) ≤ (i : Int) := by omega
      have ib : 0 ≤ (i : Int) ∧ (i : Int) < M 1 5 := by omega
      have i5 : 0 ≤ (i : Int) ∧ (i : Int) < 5 := by omega
      have lg : mR3 9 113 [vr 0, vi (i : Int)] (S0, m') (some (vi (woM M (hoF (M 2) 36) cn ns (i : Int) (4 ^ cn))), (S0, m')) := by
        rw [← lg_wo M (hoF (M 2) 36) cn ns (i : Int) (4 ^ cn)]
        exact L_largest 8 i5 (fun n a b => h2 (i : Int) n ib.1 ib.2 a b)
      rw [asS_s] at h4
      refine q_L_ask_35 hK _ _ m' (br_f (by rw [e5]; exact lt) ⟨_, _, lg, ?_⟩)
      rw [ew, wW]
      refine cN (C_offer 8 h3 _ _) (fun m4 p4 => h4 m4 (HoL_37 h1 p4.2) (fun l n a b c d => by rw [p4.2 43 (by decide), h2 l n a b c d]) p4.1)
  exact loop k 0 (by omega) m3 (HoL_37 q2 p3.2) (fun l n a b c d => by rw [p3.2 43 (by decide), q3 l n a b c d]) p3.1
end
section
/-! PURE PROOFS 51: ask, the other -/
theorem ask_M {M m : mMem} (h : Inv M) (hm : FrL m M) {x : Int} (c : x = 0 ∨ x = 1) {cn ns k : Nat} (hk : M 1 5 = k) (hcn : HcP M cn) (ok : HoOK M (hoF (M 2) 36) cn ns) : mI3 10 181 [vr 53, vi x] m (fun v m' => v = (if (asS M (hoF (M 2) 36) cn ns k).1 = -4 then (asS M (hoF (M 2) 36) cn ns k).1 else if x ≠ 0 then -(asS M (hoF (M 2) 36) cn ns k).2 else (asS M (hoF (M 2) 36) cn ns k).1) ∧ FrM m' m) := by
  have hc := h.1
  have hs := h.2.2.2.2.2.1
  have hp := Pg0_of h.2.1
  have n5 : 0 ≤ M 1 5 ∧ M 1 5 ≤ 5 := hc.2.1
  have m54 := (FrL_lo hm).2
  refine mI3_i ⟨by decide, Nat.le_of_ble_eq_true rfl⟩ (fun K hK => q_M_ask_0 hK x m ⟨_, _, R_in 8 _ _ _ _, br_t (b2_n0.mpr (by omega)) (cI (M_ho 8 h.2.1 (fun i a b => by rw [m54]) (by rw [hm.1 53 (by omega)]) (hm.1 60 (by omega)) hcn ok.1) (fun v m1 p => ?_))⟩)
  refine br_t p.1 (cI (M_fills 5 h.2.1 hc hs ok hcn (m0 := m1) p.2.2.1 p.2.2.2.2.2.1 p.2.2.2.2.2.2) (fun v2 m2 p2 => ?_))
  obtain ⟨q1, q2⟩ := p2
  have q2 : HoM M m m2 (hoF (M 2) 36) cn := ⟨FrM_trans q2.1 p.2.1, q2.2⟩
  have loop : ∀ (j i : Nat), i + j = k → ∀ (m' : mMem) (st : Int × Int), st = asS M (hoF (M 2) 36) cn ns i → HoM M m m' (hoF (M 2) 36) cn → K 33 [(0, vr 53), (1, vi x), (2, vi (-st.2)), (3, vi st.1), (4, vi (i : Int))] [] (S0, m') := by
    intro j
    induction j with
    | zero =>
      intro i hi m' st h0 h1
      have e5 : m' 54 39 = k := by rw [h1.2.1 39 (by decide) (by decide), hp.2.2.1, hk]
      rw [show i = k by omega] at h0 ⊢
      refine q_M_ask_33 hK _ _ _ _ m' (br_t (by rw [e5]; exact Int.le_refl _) ⟨fun q => rI_i ⟨?_, h1.1⟩, fun q => ⟨fun q2 => rI_i ⟨?_, h1.1⟩, fun q2 => rI_i ⟨?_, h1.1⟩⟩⟩)
      · rw [← h0, if_pos q]
      · rw [← h0, if_neg q, if_pos q2]
      · rw [← h0, if_neg q, if_neg q2]
    | succ j ih =>
      intro i hi m' st h0 h1
      have h4 := ih (i + 1) (by omega)
      have e5 : m' 54 39 = k := by rw [h1.2.1 39 (by decide) (by decide), hp.2.2.1, hk]
      have ew : w32 ((i : Int) + 1) = ((i + 1 : Nat) : Int) := by rw [w32_s (by omega) (by omega)]; omega
      have lt : ¬ ((k : Nat) : Int) ≤ (i : Int) := by omega
      have ib : 0 ≤ (i : Int) ∧ (i : Int) < M 1 5 := by omega
      rw [asS_s, ← h0] at h4
      refine q_M_ask_33 hK _ _ _ _ m' (br_f (by rw [e5]; exact lt) (cI (M_worst 5 h.2.1 hc hs ok ib h1) (fun v m3 p3 => ?_)))
      rw [← p3.1] at h4
      unfold off at h4
      refine ⟨fun z => q_M_ask_65 hK _ _ _ _ _ m3 ?_, fun z => q_M_ask_65 hK _ _ _ _ _ m3 ?_⟩
      · rw [ew]
        refine br_t z ?_
        rw [if_pos (by omega)] at h4
        exact h4 m3 st rfl p3.2
      · rw [ew]
        refine br_f z ?_
        rw [if_neg (by omega)] at h4
        have h5 := h4 m3 _ rfl p3.2
        rw [show -((i : Int), -v).2 = v from Int.neg_neg v] at h5
        exact h5
  have l0 := loop k 0 (by omega) m2 _ rfl q2
  have l1 : K 33 [(0, vr 53), (1, vi x), (2, vi (- -(flS M (hoF (M 2) 36) cn ns (4 ^ cn)))), (3, vi (-4)), (4, vi 0)] [] (S0, m2) := l0
  rw [Int.neg_neg] at l1
  rw [q1]
  exact l1
end
section
/-! PURE PROOFS 50: ask -/
theorem P_ask {M : mMem} (h : Inv M) (x : Int) : PairI 78 181 [vi x] M := by
  have hc := h.1
  have hs := h.2.2.2.2.2.1
  have hp := Pg0_of h.2.1
  have n5 : 0 ≤ M 1 5 ∧ M 1 5 ≤ 5 := hc.2.1
  obtain ⟨k, hk⟩ : ∃ k : Nat, M 1 5 = k := ⟨(M 1 5).toNat, by omega⟩
  by_cases c : x = 0 ∨ x = 1
  · rcases ho_get hs with big | ⟨cn, ns, hcn, ok⟩
    · refine ask_pair (V := -2) h ?_ (fun m hm => ?_)
      · exact mI3_i ⟨by decide, Nat.le_of_ble_eq_true rfl⟩ (fun K hK => q_L_ask_0 hK x M ⟨_, _, R_isPart 8 M x, br_t (b2_n0.mpr c) (cI (L_ho0 7 hc (FrL_refl M) big) (fun v m1 p => br_f (fun q => q p.1) (rI_i ⟨rfl, p.2⟩)))⟩)
      · exact mI3_i ⟨by decide, Nat.le_of_ble_eq_true rfl⟩ (fun K hK => q_M_ask_0 hK x m ⟨_, _, R_in 8 _ _ _ _, br_t (b2_n0.mpr (by omega)) (cI (M_ho0 8 h.2.1 (fun i a b => by rw [(FrL_lo hm).2]) big) (fun v m1 p => br_f (by rw [p.1]; decide) (rI_i ⟨rfl, p.2.1⟩)))⟩)
    · refine ask_pair (V := if (asS M (hoF (M 2) 36) cn ns k).1 = -4 then (asS M (hoF (M 2) 36) cn ns k).1 else if x ≠ 0 then -(asS M (hoF (M 2) 36) cn ns k).2 else (asS M (hoF (M 2) 36) cn ns k).1) h ?_ (fun m hm => ?_)
      · exact ask_L h c hk hcn ok
      · exact ask_M h hm c hk hcn ok
  · exact ⟨-1, M, M, ⟨⟨by decide, Nat.le_of_ble_eq_true rfl⟩, fun K hK => q_L_ask_0 hK x M ⟨_, _, R_isPart 8 M x, br_f (fun q => c (b2_n0.mp q)) (mret_i rfl rfl)⟩⟩, ⟨⟨by decide, Nat.le_of_ble_eq_true rfl⟩, fun K hK => q_M_ask_0 hK x M ⟨_, _, R_in 8 _ _ _ _, br_f (fun q => c (by have q := b2_n0.mp q; omega)) (mret_i rfl rfl)⟩⟩, h⟩
end
section
/-! PURE PROOFS 52: runners -/
def ruF (f : Int → Int) : Nat → Int → Int
  | 0 => fun _ => 0
  | n + 1 => if f (n : Nat) = 1 ∧ f ((n : Nat) + 6) = 0 then fup (ruF f n) (lrC f n) (n : Nat) else ruF f n
theorem ruF_s (f : Int → Int) (n : Nat) : ruF f (n + 1) = if f (n : Nat) = 1 ∧ f ((n : Nat) + 6) = 0 then fup (ruF f n) (lrC f n) (n : Nat) else ruF f n := rfl
theorem lrC_s (f : Int → Int) (n : Nat) : lrC f (n + 1) = lrC f n + b2 (f (n : Nat) = 1 ∧ f ((n : Nat) + 6) = 0) := rfl
theorem lrC_mono (f : Int → Int) (n : Nat) : ∀ j : Nat, lrC f n ≤ lrC f (n + j)
  | 0 => Int.le_refl _
  | j + 1 => by
    have h1 := lrC_mono f n j
    have h2 := b2_01 (f ((n + j : Nat) : Int) = 1 ∧ f (((n + j : Nat) : Int) + 6) = 0)
    have h3 := lrC_s f (n + j)
    have h4 : n + (j + 1) = n + j + 1 := by omega
    rw [h4]
    omega
theorem ruF_rng (f : Int → Int) : ∀ (n : Nat) (i : Int), 0 ≤ i → i < lrC f n → (0 ≤ ruF f n i ∧ ruF f n i < n) ∧ f (ruF f n i + 6) = 0
  | 0, i, h0, h1 => by
    have e : lrC f 0 = 0 := rfl
    omega
  | n + 1, i, h0, h1 => by
    have ih := ruF_rng f n i h0
    rw [lrC_s] at h1
    rw [ruF_s]
    by_cases q : f (n : Nat) = 1 ∧ f ((n : Nat) + 6) = 0
    · rw [if_pos q]
      rw [b2_t q] at h1
      by_cases z : i = lrC f n
      · rw [z, fup_at]
        exact ⟨by omega, q.2⟩
      · rw [fup_ne _ _ z]
        have g := ih (by omega)
        exact ⟨by omega, g.2⟩
    · rw [if_neg q]
      rw [b2_f q] at h1
      have g := ih (by omega)
      exact ⟨by omega, g.2⟩
theorem ruF_lt (f : Int → Int) : ∀ (n : Nat) (i j : Int), 0 ≤ i → i < j → j < lrC f n → ruF f n i < ruF f n j
  | 0, i, j, h0, h1, h2 => by
    have e : lrC f 0 = 0 := rfl
    omega
  | n + 1, i, j, h0, h1, h2 => by
    have ih := ruF_lt f n i j h0 h1
    have rr := ruF_rng f n i h0
    rw [lrC_s] at h2
    rw [ruF_s]
    by_cases q : f (n : Nat) = 1 ∧ f ((n : Nat) + 6) = 0
    · rw [if_pos q]
      rw [b2_t q] at h2
      by_cases z : j = lrC f n
      · rw [z, fup_at, fup_ne _ _ (by omega)]
        have g := rr (by omega)
        omega
      · rw [fup_ne _ _ z, fup_ne _ _ (by omega)]
        exact ih (by omega)
    · rw [if_neg q]
      rw [b2_f q] at h2
      exact ih (by omega)
theorem lrM_59 (M : mMem) (f : Int → Int) : ∀ (n : Nat) (i : Int), 0 ≤ i → i < lrC f n → lrM M f n 59 i = ruF f n i
  | 0, i, h0, h1 => by
    have e : lrC f 0 = 0 := rfl
    omega
  | n + 1, i, h0, h1 => by
    have ih := lrM_59 M f n i h0
    rw [lrC_s] at h1
    rw [ruF_s]
    show (if f (n : Nat) = 1 ∧ f ((n : Nat) + 6) = 0 then mupd (lrM M f n) 59 (lrC f n) (n : Nat) else lrM M f n) 59 i = _
    by_cases q : f (n : Nat) = 1 ∧ f ((n : Nat) + 6) = 0
    · rw [if_pos q, if_pos q, mupd_at]
      rw [b2_t q] at h1
      by_cases z : i = lrC f n
      · rw [z, fup_at, fup_at]
      · rw [fup_ne _ _ z, fup_ne _ _ z]
        exact ih (by omega)
    · rw [if_neg q, if_neg q]
      rw [b2_f q] at h1
      exact ih (by omega)
def RuOK (M : mMem) (H : Int → Int) (cn : Nat) : Prop := cn ≤ 8 ∧ (∀ i : Int, 0 ≤ i → i < cn → (0 ≤ H i ∧ H i < 30) ∧ M 2 (H i + 6) = 0) ∧ ∀ i j : Int, 0 ≤ i → i < j → j < cn → H i < H j
def RuL (M m : mMem) (H : Int → Int) (cn : Nat) : Prop := FrL m M ∧ (∃ g, TrC m M g (M 3) ∧ ∀ i : Int, 0 ≤ i → i < 36 → (∀ j : Nat, j < cn → i ≠ H j + 6) → g i = M 2 i) ∧ m 0 15 = cn ∧ ∀ i : Int, 0 ≤ i → i < cn → m 44 i = H i
def RcP (M : mMem) (cn : Nat) : Prop := lrC (M 2) 30 = cn
theorem ru_get (M : mMem) : (8 < lrC (M 2) 30) ∨ ∃ cn : Nat, RcP M cn ∧ RuOK M (ruF (M 2) 30) cn := by
  by_cases q : 8 < lrC (M 2) 30
  · exact Or.inl q
  · have r := lrC_rng (M 2) 30
    have e : lrC (M 2) 30 = ((lrC (M 2) 30).toNat : Int) := by omega
    refine Or.inr ⟨(lrC (M 2) 30).toNat, e, by omega, fun i a b => ?_, fun i j a b c => ?_⟩
    · have g := ruF_rng (M 2) 30 i a (by omega)
      exact ⟨by omega, g.2⟩
    · exact ruF_lt (M 2) 30 i j a b (by omega)
theorem L_run0 (d : Nat) {M m : mMem} (hc : Cht M 1) (hm : FrL m M) (h : 8 < lrC (M 2) 30) : mI3 (d + 2) 104 [vr 0] m (fun v m' => v = 0 ∧ FrL m' M) := by
  have e2 : m 2 = M 2 := (FrL_lo hm).1 2 (by decide) (by decide)
  have c1 : Cht m 1 := Cht_eq hc (fun k a b => (FrL_lo hm).1 k a (by omega))
  have g := R_runningCells d m 1 (by omega) c1.1
  have g2 : cB (m (1 + 1)) 1 0 = lrC (M 2) 30 := by
    show cB (m 2) 1 0 = lrC (M 2) 30
    rw [e2]
    rfl
  rw [g2] at g
  exact mI3_i ⟨by decide, Nat.le_of_ble_eq_true rfl⟩ (fun K hK => q_L_gatherRunners_0 hK m ⟨_, _, g, br_f (by omega) (rI_i ⟨rfl, hm⟩)⟩)
theorem L_run (d : Nat) {M m : mMem} {cn : Nat} (hc : Cht M 1) (hm : FrL m M) (hcn : RcP M cn) (h8 : cn ≤ 8) : mI3 (d + 2) 104 [vr 0] m (fun v m' => v = 1 ∧ RuL M m' (ruF (M 2) 30) cn) := by
  have e2 : m 2 = M 2 := (FrL_lo hm).1 2 (by decide) (by decide)
  have c1 : Cht m 1 := Cht_eq hc (fun k a b => (FrL_lo hm).1 k a (by omega))
  have g := R_runningCells d m 1 (by omega) c1.1
  have g2 : cB (m (1 + 1)) 1 0 = cn := by
    show cB (m 2) 1 0 = cn
    rw [e2]
    exact hcn
  rw [g2] at g
  have hq : lrC (M 2) 30 ≤ 8 := by
    have hcn : lrC (M 2) 30 = cn := hcn
    omega
  refine mI3_i ⟨by decide, Nat.le_of_ble_eq_true rfl⟩ (fun K hK => q_L_gatherRunners_0 hK m ⟨_, _, g, br_t (by omega) ⟨_, R_copyFrom d m 9 1 (by unfold cpP; omega), ?_⟩⟩)
  have t0 := T_copy (m := m) (M := M) hc (fun k a b => (FrL_lo hm).1 k a b)
  have last : ∀ (j i : Nat), i + j = 36 → 30 ≤ i → ∀ m' : mMem, RuL M m' (ruF (M 2) 30) cn → K 32 [(0, vr 0), (1, vi (i : Int))] [] (S0, m') := by
    intro j
    induction j with
    | zero =>
      intro i hi h30 m' h0
      rw [show i = 36 by omega]
      exact q_L_gatherRunners_32 hK _ m' (br_t (by decide) (rI_i ⟨rfl, h0⟩))
    | succ j ih =>
      intro i hi h30 m' h0
      have ew : w32 ((i : Int) + 1) = ((i + 1 : Nat) : Int) := by rw [w32_s (by omega) (by omega)]; omega
      refine q_L_gatherRunners_32 hK _ m' (br_f (by omega) ⟨_, _, R_canRun d m' 1 (by omega) (i : Int) (by omega), ?_⟩)
      rw [ew]
      exact br_t (b2_f (by omega)) (ih (i + 1) (by omega) (by omega) m' h0)
  have loop : ∀ (j i : Nat), i + j = 30 → ∀ m' : mMem, FrL m' M → TrC m' M (M 2) (M 3) → m' 0 15 = lrC (M 2) i → (∀ x : Int, 0 ≤ x → x < lrC (M 2) i → m' 44 x = ruF (M 2) i x) → K 32 [(0, vr 0), (1, vi (i : Int))] [] (S0, m') := by
    intro j
    induction j with
    | zero =>
      intro i hi m' h0 h1 h2 h3
      rw [show i = 30 by omega] at h2 h3 ⊢
      have hcn : lrC (M 2) 30 = cn := hcn
      rw [hcn] at h2 h3
      exact last 6 30 (by omega) (by omega) m' ⟨h0, ⟨M 2, h1, fun _ _ _ _ => rfl⟩, h2, h3⟩
    | succ j ih =>
      intro i hi m' h0 h1 h2 h3
      have h4 := ih (i + 1) (by omega)
      have mo := lrC_mono (M 2) (i + 1) j
      rw [show i + 1 + j = 30 by omega] at mo
      have r0 := lrC_rng (M 2) i
      rw [lrC_s] at h4 mo
      rw [ruF_s] at h4
      generalize lrC (M 2) i = cc at h2 h3 h4 mo r0
      generalize ruF (M 2) i = H at h3 h4
      have cr := R_canRun d m' 1 (by omega) (i : Int) (by omega)
      have hz : ∃ z : Int, z = (i : Int) := ⟨_, rfl⟩
      obtain ⟨z, hz⟩ := hz
      have ez : ((i + 1 : Nat) : Int) = z + 1 := by omega
      rw [ez, ← hz] at h4
      rw [← hz] at mo cr
      rw [← hz]
      have zb : 0 ≤ z ∧ z < 30 := by omega
      generalize lrC (M 2) 30 = tot at hq mo
      clear hz ez hi ih
      have ew : w32 (z + 1) = z + 1 := w32_s (by omega) (by omega)
      have mz : m' 2 = M 2 := (FrL_lo h0).1 2 (by decide) (by decide)
      have mz2 : m' (1 + 1) = M 2 := mz
      rw [mz2] at cr
      refine q_L_gatherRunners_32 hK _ m' (br_f (by omega) ⟨_, _, cr, ?_⟩)
      rw [ew]
      refine ⟨fun y => ?_, fun y => ?_⟩
      · have y := b2_0.mp y
        have y2 : ¬ (M 2 z = 1 ∧ M 2 (z + 6) = 0) := fun w => y ⟨w.1, zb.2, w.2⟩
        rw [b2_f y2, if_neg y2, Int.add_zero] at h4
        exact h4 m' h0 h1 h2 h3
      · have y := b2_n0.mp y
        have y2 : M 2 z = 1 ∧ M 2 (z + 6) = 0 := ⟨y.1, y.2.2⟩
        rw [b2_t y2] at mo
        rw [b2_t y2, if_pos y2] at h4
        refine br_f (by omega) (mIn_i (by omega) (by omega) ?_)
        have e1 : mupd m' 44 (m' 0 15) z 0 15 = cc := by rw [mupd_ne _ _ _ (by decide), h2]
        rw [e1, w32_s (z := cc + 1) (by omega) (by omega), h2]
        refine h4 _ ?_ ?_ ?_ (fun x x0 x1 => ?_)
        · refine ⟨fun k hk => ?_, ?_, ?_⟩
          · rw [mupd_ne _ _ _ (by omega), mupd_ne _ _ _ (by omega), h0.1 k hk]
          · rw [mupd_at, fup_ne _ _ (by decide), mupd_ne _ _ _ (by decide), h0.2.1]
          · rw [mupd_at, fup_ne _ _ (by decide), mupd_ne _ _ _ (by decide), h0.2.2]
        · exact T_eq h1 (fun k a b => by rw [mupd_ne _ _ _ (by omega), mupd_ne _ _ _ (by omega)]) (by rw [mupd_ne _ _ _ (by omega), mupd_ne _ _ _ (by omega)]) (by rw [mupd_ne _ _ _ (by omega), mupd_ne _ _ _ (by omega)])
        · rw [mupd_at, fup_at]
        · rw [mupd_ne _ _ _ (by decide), mupd_at]
          unfold fup
          split
          · rfl
          · exact h3 x x0 (by omega)
  refine loop 30 0 (by omega) _ ?_ ?_ ?_ (fun x x0 x1 => ?_)
  · refine ⟨fun k hk => ?_, ?_, ?_⟩
    · rw [mupd_ne _ _ _ (by omega), cpy_ne m (by omega), hm.1 k hk]
    · rw [mupd_at, fup_ne _ _ (by decide), cpy_ne m (by omega), hm.2.1]
    · rw [mupd_at, fup_ne _ _ (by decide), cpy_ne m (by omega), hm.2.2]
  · exact T_eq t0 (fun k a b => by rw [mupd_ne _ _ _ (by omega)]) (by rw [mupd_ne _ _ _ (by omega)]) (by rw [mupd_ne _ _ _ (by omega)])
  · rw [mupd_at, fup_at]
    rfl
  · have e : lrC (M 2) 0 = 0 := rfl
    omega
end
section
/-! PURE PROOFS 53: odds, least terms -/
theorem gcd_st {g l : Int} (hg : 0 ≤ g) (hl : 0 ≤ l) : Int.gcd l (g % l) = Int.gcd g l := by
  obtain ⟨a, rfl⟩ := Int.eq_ofNat_of_zero_le hg
  obtain ⟨b, rfl⟩ := Int.eq_ofNat_of_zero_le hl
  rw [← Int.natCast_emod]
  show Nat.gcd b (a % b) = Nat.gcd a b
  rw [Nat.gcd_comm a b, Nat.gcd_rec b a, Nat.gcd_comm]
theorem gcd_z {g : Int} (h : 0 ≤ g) : (Int.gcd g 0 : Int) = g := by
  rw [Int.gcd_zero_right]
  omega
theorem half {l r : Int} (h0 : 0 < r) (h1 : r < l) : 2 * (l % r) < l := by
  have a := Int.emod_lt_of_pos l h0
  have b := Int.mul_ediv_add_emod l r
  have c : 1 ≤ l / r := Int.le_ediv_of_mul_le h0 (by omega)
  have d : r * 1 ≤ r * (l / r) := Int.mul_le_mul_of_nonneg_left c (by omega)
  omega
theorem jlrem_nn {a b : Int} (h0 : 0 ≤ a) : jlrem a b = a % b := Int.tmod_eq_emod_of_nonneg h0
theorem L_gcd (d : Nat) (m : mMem) {a b : Int} (ha : 0 ≤ a) (ha2 : a < 2 ^ 60) (hb : 0 < b) : mR3 (d + 1) 108 [vl a, vl b] (S0, m) (some (vl ((Int.gcd b a : Nat) : Int)), (S0, m)) := by
  refine ⟨⟨by decide, Nat.le_of_ble_eq_true rfl⟩, fun K hK => q_L_greatestDivisor_0 hK a b m ?_⟩
  have fin : ∀ (g i : Int), 0 < g → ((Int.gcd b a : Nat) : Int) = g → i < 200 → K 9 [(4, vl g), (6, vl 0), (8, vi i)] [] (S0, m) := by
    intro g i h0 h1 h2
    refine q_L_greatestDivisor_9 hK g 0 i m (br_f (by omega) (br_t (by decide) (mret_l ?_ rfl)))
    rw [h1]
    split <;> omega
  have loop : ∀ (k : Nat) (g l i : Int), 0 < g → 0 ≤ l → l < 2 ^ k → 0 ≤ i → i + 2 * k < 200 → ((Int.gcd b a : Nat) : Int) = ((Int.gcd g l : Nat) : Int) → K 9 [(4, vl g), (6, vl l), (8, vi i)] [] (S0, m) := by
    intro k
    induction k with
    | zero =>
      intro g l i h0 h1 h2 h3 h4 h5
      have e : l = 0 := by
        have : (2 : Int) ^ 0 = 1 := rfl
        omega
      rw [e] at h5 ⊢
      exact fin g i h0 (by rw [h5, gcd_z (by omega)]) (by omega)
    | succ k ih =>
      intro g l i h0 h1 h2 h3 h4 h5
      by_cases z : l = 0
      · rw [z] at h5 ⊢
        exact fin g i h0 (by rw [h5, gcd_z (by omega)]) (by omega)
      · have p2 : (2 : Int) ^ (k + 1) = 2 ^ k * 2 := Int.pow_succ 2 k
        have lc : ¬ jlcmp l ((0 : Nat) : Int) ≤ 0 := by
          have := jlcmp_gt (a := l) (b := ((0 : Nat) : Int))
          omega
        refine q_L_greatestDivisor_9 hK g l i m (br_f (by omega) (br_f lc ⟨z, ?_⟩))
        rw [jlrem_nn (by omega), w32_s (z := i + 1) (by omega) (by omega)]
        have r0 := Int.emod_nonneg g z
        have r1 := Int.emod_lt_of_pos g (show 0 < l by omega)
        have h6 := gcd_st (g := g) (l := l) (by omega) h1
        rw [← h6] at h5
        generalize g % l = r at r0 r1 h5
        by_cases y : r = 0
        · rw [y] at h5 ⊢
          exact fin l (i + 1) (by omega) (by rw [h5, gcd_z h1]) (by omega)
        · have lc2 : ¬ jlcmp r ((0 : Nat) : Int) ≤ 0 := by
            have := jlcmp_gt (a := r) (b := ((0 : Nat) : Int))
            omega
          refine q_L_greatestDivisor_9 hK l r (i + 1) m (br_f (by omega) (br_f lc2 ⟨y, ?_⟩))
          rw [jlrem_nn h1, w32_s (z := i + 1 + 1) (by omega) (by omega)]
          have hf := half (l := l) (r := r) (by omega) r1
          have r2 := Int.emod_nonneg l y
          have h7 := gcd_st (g := l) (l := r) h1 r0
          rw [← h7] at h5
          exact ih r (l % r) (i + 1 + 1) (by omega) r2 (by omega) (by omega) (by omega) h5
  exact loop 60 b a 0 hb ha ha2 (by omega) (by omega) rfl
theorem M_low (d : Nat) (m : mMem) {u w x : Int} (hu : 0 ≤ u) (hw : 0 < w) : mR3 (d + 1) 167 [vl u, vl w, vi x] (S0, m) (some (vl (jldiv (if x ≠ 0 then w else u) ((Int.gcd w u : Nat) : Int))), (S0, m)) := by
  refine ⟨⟨by decide, Nat.le_of_ble_eq_true rfl⟩, fun K hK => q_M_lowest_0 hK u w x m ?_⟩
  have loop : ∀ (n : Nat) (a b : Int), 0 ≤ a → 0 ≤ b → b < n → (0 < a ∨ 0 < b) → Int.gcd a b = Int.gcd w u → K 6 [(0, vl u), (2, vl w), (4, vi x), (5, vl a), (7, vl b)] [] (S0, m) := by
    intro n
    induction n with
    | zero =>
      intro a b _ h1 h2 _ _
      exact absurd h2 (by omega)
    | succ n ih =>
      intro a b h0 h1 h2 h3 h4
      by_cases z : b = 0
      · rw [z] at h4 ⊢
        have e : ((Int.gcd w u : Nat) : Int) = a := by rw [← h4, gcd_z h0]
        refine q_M_lowest_6 hK u w x a 0 m (br_t (by decide) ⟨fun q => ⟨by omega, mret_l ?_ rfl⟩, fun q => ⟨by omega, mret_l ?_ rfl⟩⟩)
        · rw [if_pos q, e]
        · rw [if_neg q, e]
      · have lc : ¬ jlcmp b ((0 : Nat) : Int) = 0 := by
          have := jlcmp_eq (a := b) (b := ((0 : Nat) : Int))
          omega
        refine q_M_lowest_6 hK u w x a b m (br_f lc ⟨z, ?_⟩)
        rw [jlrem_nn h0]
        have r0 := Int.emod_nonneg a z
        have r1 := Int.emod_lt_of_pos a (show 0 < b by omega)
        exact ih b (a % b) h1 r0 (by omega) (Or.inl (by omega)) (by rw [gcd_st h0 h1, h4])
  exact loop (w.toNat + 1) u w hu (by omega) (by omega) (Or.inr hw) (Int.gcd_comm u w)
def beW : Nat → Int
  | 0 => 1
  | n + 1 => w64 (beW n * 10)
theorem beW_rng : ∀ n : Nat, n < 9 → 1 ≤ beW n ∧ beW n ≤ 100000000 := by decide +kernel
theorem L_frac (d : Nat) {m : mMem} {cn : Nat} {u x : Int} (h : m 0 15 = cn) (h8 : cn ≤ 8) (hu : 0 ≤ u) (hu2 : u < 2 ^ 60) : mR3 (d + 2) 107 [vr 0, vl u, vi x] (S0, m) (some (vl (jldiv (if x ≠ 0 then beW cn else u) ((Int.gcd (beW cn) u : Nat) : Int))), (S0, m)) := by
  refine ⟨⟨by decide, Nat.le_of_ble_eq_true rfl⟩, fun K hK => q_L_fractionPart_0 hK u x m ?_⟩
  have loop : ∀ (j i : Nat), i + j = cn → K 6 [(0, vr 0), (1, vl u), (3, vi x), (4, vl (beW i)), (6, vi (i : Int))] [] (S0, m) := by
    intro j
    induction j with
    | zero =>
      intro i hi
      rw [show i = cn by omega]
      have b := beW_rng cn (by omega)
      have g : ((Int.gcd (beW cn) u : Nat) : Int) ≠ 0 := by
        intro q
        have q2 : Int.gcd (beW cn) u = 0 := by omega
        have q3 := (Int.gcd_eq_zero_iff.mp q2).1
        omega
      refine q_L_fractionPart_6 hK _ _ _ _ m (br_t (by rw [h]; exact Int.le_refl _) ⟨_, _, L_gcd d m hu hu2 (by omega), ⟨fun q => ⟨g, mret_l ?_ rfl⟩, fun q => ⟨g, mret_l ?_ rfl⟩⟩⟩)
      · rw [if_pos q]
      · rw [if_neg q]
    | succ j ih =>
      intro i hi
      have ew : w32 ((i : Int) + 1) = ((i + 1 : Nat) : Int) := by rw [w32_s (by omega) (by omega)]; omega
      have lt : ¬ (cn : Int) ≤ (i : Int) := by omega
      refine q_L_fractionPart_6 hK _ _ _ _ m (br_f (by rw [h]; exact lt) ?_)
      rw [ew]
      exact ih (i + 1) (by omega)
  exact loop cn 0 (by omega)
def weF (v q : Int) : Nat → Int
  | 0 => 1
  | i + 1 => w64 (weF v q i * (if jand (jshr q (i : Nat)) 1 ≠ 1 then w32 (10 - v) else v))
theorem weF_s (v q : Int) (i : Nat) : weF v q (i + 1) = w64 (weF v q i * (if jand (jshr q (i : Nat)) 1 ≠ 1 then w32 (10 - v) else v)) := rfl
theorem p10 : ∀ i : Nat, i < 9 → (10 : Int) ^ i ≤ 100000000 := by decide +kernel
theorem weF_rng {v q : Int} (hv : 0 ≤ v ∧ v ≤ 10) : ∀ i : Nat, i ≤ 8 → 0 ≤ weF v q i ∧ weF v q i ≤ 10 ^ i
  | 0, _ => ⟨by show (0 : Int) ≤ 1; decide, by show (1 : Int) ≤ 1; decide⟩
  | i + 1, h => by
    have ih := weF_rng hv (q := q) i (by omega)
    rw [weF_s]
    have c : 0 ≤ (if jand (jshr q (i : Nat)) 1 ≠ 1 then w32 (10 - v) else v) ∧ (if jand (jshr q (i : Nat)) 1 ≠ 1 then w32 (10 - v) else v) ≤ 10 := by
      rw [w32_s (z := 10 - v) (by omega) (by omega)]
      split <;> omega
    generalize (if jand (jshr q (i : Nat)) 1 ≠ 1 then w32 (10 - v) else v) = c0 at c
    have a1 : 0 ≤ weF v q i * c0 := Int.mul_nonneg ih.1 c.1
    have a2 : weF v q i * c0 ≤ 10 ^ i * 10 := Int.mul_le_mul ih.2 c.2 c.1 (by have := ih.1; have := ih.2; omega)
    have p1 : (10 : Int) ^ (i + 1) = 10 ^ i * 10 := Int.pow_succ 10 i
    have p2 := p10 (i + 1) (by omega)
    rw [w64_id ⟨by omega, by omega⟩, p1]
    exact ⟨a1, a2⟩
theorem weF_8 {v q : Int} (hv : 0 ≤ v ∧ v ≤ 10) {i : Nat} (h : i ≤ 8) : 0 ≤ weF v q i ∧ weF v q i ≤ 100000000 := by
  have a := weF_rng hv (q := q) i h
  have p2 := p10 i (by omega)
  omega
theorem L_wei (d : Nat) {m : mMem} {cn : Nat} (h : m 0 15 = cn) (h8 : cn ≤ 8) (q v : Int) : mR3 (d + 1) 106 [vr 0, vi q, vi v] (S0, m) (some (vl (weF v q cn)), (S0, m)) := by
  refine ⟨⟨by decide, Nat.le_of_ble_eq_true rfl⟩, fun K hK => q_L_weight_0 hK q v m ?_⟩
  have loop : ∀ (j i : Nat), i + j = cn → K 5 [(0, vr 0), (1, vi q), (2, vi v), (3, vl (weF v q i)), (5, vi (i : Int))] [] (S0, m) := by
    intro j
    induction j with
    | zero =>
      intro i hi
      rw [show i = cn by omega]
      exact q_L_weight_5 hK _ _ _ _ m (br_t (by rw [h]; exact Int.le_refl _) (mret_l rfl rfl))
    | succ j ih =>
      intro i hi
      have h4 := ih (i + 1) (by omega)
      have ew : w32 ((i : Int) + 1) = ((i + 1 : Nat) : Int) := by rw [w32_s (by omega) (by omega)]; omega
      have lt : ¬ (cn : Int) ≤ (i : Int) := by omega
      rw [weF_s] at h4
      refine q_L_weight_5 hK _ _ _ _ m (br_f (by rw [h]; exact lt) ?_)
      rw [ew]
      refine ⟨fun z => ?_, fun z => ?_⟩
      · rw [if_pos z] at h4
        exact h4
      · rw [if_neg z] at h4
        exact h4
  exact loop cn 0 (by omega)
end
section
/-! PURE PROOFS 54: red let run -/
def rmF (f H : Int → Int) (q : Int) : Nat → Int → Int
  | 0 => f
  | i + 1 => if jand (jshr q (i : Nat)) 1 ≠ 1 then rmF f H q i else fup (rmF f H q i) (H (i : Nat) + 6) 1
def rcF (f H : Int → Int) (q : Int) : Nat → Int → Int
  | 0 => f
  | i + 1 => fup (rcF f H q i) (H (i : Nat) + 6) (if jand (jshr q (i : Nat)) 1 ≠ 1 then 0 else 1)
theorem rmF_s (f H : Int → Int) (q : Int) (i : Nat) : rmF f H q (i + 1) = if jand (jshr q (i : Nat)) 1 ≠ 1 then rmF f H q i else fup (rmF f H q i) (H (i : Nat) + 6) 1 := rfl
theorem rcF_s (f H : Int → Int) (q : Int) (i : Nat) : rcF f H q (i + 1) = fup (rcF f H q i) (H (i : Nat) + 6) (if jand (jshr q (i : Nat)) 1 ≠ 1 then 0 else 1) := rfl
theorem rmF_out (f H : Int → Int) (q : Int) : ∀ (n : Nat) (x : Int), (∀ j : Nat, j < n → x ≠ H j + 6) → rmF f H q n x = f x
  | 0, _, _ => rfl
  | n + 1, x, h => by
    rw [rmF_s]
    have ih := rmF_out f H q n x (fun j hj => h j (by omega))
    split
    · exact ih
    · rw [fup_ne _ _ (h n (by omega))]
      exact ih
theorem rc_rm (f g H : Int → Int) (q : Int) (cn : Nat) (h0 : ∀ i : Int, 0 ≤ i → i < cn → f (H i + 6) = 0) (hi : ∀ i j : Int, 0 ≤ i → i < j → j < cn → H i < H j) : ∀ (n : Nat), n ≤ cn → ∀ x : Int, (g x = f x ∨ ∃ j : Nat, j < n ∧ x = H j + 6) → rcF g H q n x = rmF f H q n x
  | 0, _, x, h => by
    rcases h with h | ⟨j, h, _⟩
    · exact h
    · exact absurd h (by omega)
  | n + 1, hn, x, h => by
    rw [rcF_s, rmF_s]
    by_cases z : x = H (n : Nat) + 6
    · rw [z, fup_at]
      by_cases y : jand (jshr q (n : Nat)) 1 ≠ 1
      · rw [if_pos y, if_pos y, rmF_out f H q n _ (fun j hj => ?_), h0 _ (by omega) (by omega)]
        have := hi (j : Nat) (n : Nat) (by omega) (by omega) (by omega)
        omega
      · rw [if_neg y, if_neg y, fup_at]
    · rw [fup_ne _ _ z]
      have ih := rc_rm f g H q cn h0 hi n (by omega) x (by
        rcases h with h | ⟨j, h1, h2⟩
        · exact Or.inl h
        · refine Or.inr ⟨j, ?_, h2⟩
          by_cases y : j = n
          · rw [y] at h2
            exact absurd h2 z
          · omega)
      by_cases y : jand (jshr q (n : Nat)) 1 ≠ 1
      · rw [if_pos y]
        exact ih
      · rw [if_neg y, fup_ne _ _ z]
        exact ih
theorem L_let (d : Nat) {M m : mMem} {H : Int → Int} {cn : Nat} (ok : RuOK M H cn) (h : RuL M m H cn) (q : Int) : mN3 (d + 3) 105 [vr 0, vi q] m (fun m' => TrC m' M (rmF (M 2) H q cn) (M 3) ∧ RuL M m' H cn ∧ ∀ k : Nat, (k < 9 ∨ 17 ≤ k) → m' k = m k) := by
  obtain ⟨h1, ⟨g, h2, h3⟩, h4, h5⟩ := h
  obtain ⟨o1, o2, o3⟩ := ok
  refine mN3_i ⟨by decide, Nat.le_of_ble_eq_true rfl⟩ (fun K hK => q_L_letRun_0 hK q m ?_)
  have loop : ∀ (j i : Nat), i + j = cn → ∀ m' : mMem, TrC m' M (rcF g H q i) (M 3) → (∀ k : Nat, (k < 9 ∨ 17 ≤ k) → m' k = m k) → K 2 [(0, vr 0), (1, vi q), (2, vi (i : Int))] [] (S0, m') := by
    intro j
    induction j with
    | zero =>
      intro i hi m' t1 t2
      have e15 : m' 0 15 = cn := by rw [t2 0 (by omega), h4]
      rw [show i = cn by omega] at t1 ⊢
      have t3 : TrC m' M (rmF (M 2) H q cn) (M 3) := T_cong t1 (fun z a b => by
        refine rc_rm (M 2) g H q cn (fun i a b => (o2 i a b).2) o3 cn (by omega) z ?_
        by_cases y : ∀ j : Nat, j < cn → z ≠ H j + 6
        · exact Or.inl (h3 z a b y)
        · exact Or.inr (Classical.byContradiction (fun w => y (fun j hj e => w ⟨j, hj, e⟩))))
      refine q_L_letRun_2 hK _ _ m' (br_t (by rw [e15]; exact Int.le_refl _) (rN_i ⟨t3, ⟨FrL_row h1 (fun k a _ _ _ _ _ => t2 k a), ⟨_, t3, fun i a b w => rmF_out _ _ _ _ _ w⟩, e15, fun i a b => ?_⟩, t2⟩))
      rw [t2 44 (by omega), h5 i a b]
    | succ j ih =>
      intro i hi m' t1 t2
      have t4 := ih (i + 1) (by omega)
      have e15 : m' 0 15 = cn := by rw [t2 0 (by omega), h4]
      rw [rcF_s] at t4
      generalize rcF g H q i = g' at t1 t4
      have hz : ∃ z : Int, z = (i : Int) := ⟨_, rfl⟩
      obtain ⟨z, hz⟩ := hz
      have ez : ((i + 1 : Nat) : Int) = z + 1 := by omega
      rw [ez, ← hz] at t4
      rw [← hz]
      have zb : 0 ≤ z ∧ z < cn ∧ z < 8 := by omega
      clear hz ez hi ih
      have ew : w32 (z + 1) = z + 1 := w32_s (by omega) (by omega)
      have e44 : m' 44 z = H z := by rw [t2 44 (by omega), h5 _ (by omega) (by omega)]
      have hb := (o2 z (by omega) (by omega)).1
      have w6 : w32 (H z + 6) = H z + 6 := w32_s (by omega) (by omega)
      refine q_L_letRun_2 hK _ _ m' (br_f (by rw [e15]; omega) ?_)
      rw [e44, ew, w6]
      refine mIn_i (by omega) (by omega) ⟨fun y => ⟨_, R_put d m' 9 (by omega) (H z + 6) 0 (by omega) (by omega) t1.1.1.1, ?_⟩, fun y => ⟨_, R_put d m' 9 (by omega) (H z + 6) 1 (by omega) (by omega) t1.1.1.1, ?_⟩⟩
      · rw [if_pos y] at t4
        refine t4 _ (T_put t1 (by omega) (by omega)) (fun k hk => ?_)
        rw [put_ne _ _ _ _ (by omega) (by omega) (by omega), t2 k hk]
      · rw [if_neg y] at t4
        refine t4 _ (T_put t1 (by omega) (by omega)) (fun k hk => ?_)
        rw [put_ne _ _ _ _ (by omega) (by omega) (by omega), t2 k hk]
  exact loop cn 0 (by omega) m h2 (fun _ _ => rfl)
theorem sc_v : ∀ c : Nat, c < 9 → jshl 1 (c : Int) = ((2 ^ c : Nat) : Int) := by decide +kernel
theorem sc_b : ∀ c : Nat, c < 9 → 2 ^ c ≤ 256 := by decide +kernel
/-- what is above, after q ways of running -/
def upS (M : mMem) (H : Int → Int) (cn k : Nat) (v l : Int) : Nat → Int
  | 0 => 0
  | q + 1 => if l ≠ -4 then (if rdL (M 4) (rmF (M 2) H (q : Nat) cn) l ≤ 0 then upS M H cn k v l q else w64 (upS M H cn k v l q + weF v (q : Nat) cn)) else w64 (upS M H cn k v l q + w64 (weF v (q : Nat) cn * woS (M 4) (rmF (M 2) H (q : Nat) cn) k))
theorem upS_s (M : mMem) (H : Int → Int) (cn k : Nat) (v l : Int) (q : Nat) : upS M H cn k v l (q + 1) = if l ≠ -4 then (if rdL (M 4) (rmF (M 2) H (q : Nat) cn) l ≤ 0 then upS M H cn k v l q else w64 (upS M H cn k v l q + weF v (q : Nat) cn)) else w64 (upS M H cn k v l q + w64 (weF v (q : Nat) cn * woS (M 4) (rmF (M 2) H (q : Nat) cn) k)) := rfl
theorem upS_rng {M : mMem} {H : Int → Int} {cn k : Nat} {v l : Int} (hv : 0 ≤ v ∧ v ≤ 10) (h8 : cn ≤ 8) (k5 : k ≤ 5) (hL : lawOK (M 4) k) : ∀ q : Nat, q ≤ 256 → 0 ≤ upS M H cn k v l q ∧ upS M H cn k v l q ≤ 300000000000 * q
  | 0, _ => ⟨Int.le_refl _, by show (0 : Int) ≤ 300000000000 * 0; decide⟩
  | q + 1, hq => by
    have ih := upS_rng hv h8 k5 hL (H := H) (l := l) q (by omega)
    have w := weF_8 hv (q := (q : Nat)) h8
    have r := woS_rng (f := rmF (M 2) H (q : Nat) cn) hL
    rw [upS_s]
    generalize upS M H cn k v l q = u at ih
    generalize weF v (q : Nat) cn = w0 at w
    generalize woS (M 4) (rmF (M 2) H (q : Nat) cn) k = r0 at r
    have a1 : 0 ≤ w0 * r0 := Int.mul_nonneg w.1 r.1
    have a2 : w0 * r0 ≤ 100000000 * 2700 := Int.mul_le_mul w.2 (by omega) r.1 (by decide)
    have e1 : w64 (w0 * r0) = w0 * r0 := w64_id ⟨by omega, by omega⟩
    have e2 : w64 (u + w0 * r0) = u + w0 * r0 := w64_id ⟨by omega, by omega⟩
    have e3 : w64 (u + w0) = u + w0 := w64_id ⟨by omega, by omega⟩
    rw [e1, e2, e3]
    split
    · split <;> omega
    · omega
end
section
/-! PURE PROOFS 55: luck and mean, the class -/
def frV (cn : Nat) (u x : Int) : Int := jldiv (if x ≠ 0 then beW cn else u) ((Int.gcd (beW cn) u : Nat) : Int)
theorem upS_60 {M : mMem} {H : Int → Int} {cn k : Nat} {v l : Int} (hv : 0 ≤ v ∧ v ≤ 10) (h8 : cn ≤ 8) (k5 : k ≤ 5) (hL : lawOK (M 4) k) : 0 ≤ upS M H cn k v l (2 ^ cn) ∧ upS M H cn k v l (2 ^ cn) < 2 ^ 60 := by
  have b := sc_b cn (by omega)
  have r := upS_rng hv h8 k5 hL (H := H) (l := l) (2 ^ cn) b
  generalize upS M H cn k v l (2 ^ cn) = u at r
  generalize 2 ^ cn = n at b r
  have p : (2 : Int) ^ 60 = 1152921504606846976 := rfl
  omega
theorem RuL_15 {M m : mMem} {H : Int → Int} {cn : Nat} (h : RuL M m H cn) : m 0 15 = cn := h.2.2.1
theorem mean_L {M : mMem} (hc : Cht M 1) {v x : Int} (hv : 0 ≤ v ∧ v ≤ 10) (c : x = 0 ∨ x = 1) {cn k : Nat} (hk : M 1 5 = k) (hcn : RcP M cn) (ok : RuOK M (ruF (M 2) 30) cn) : mL3 10 72 [vr 0, vi v, vi x] M (fun w m => w = frV cn (upS M (ruF (M 2) 30) cn k v (-4) (2 ^ cn)) x ∧ FrL m M) := by
  have n5 : 0 ≤ M 1 5 ∧ M 1 5 ≤ 5 := hc.2.1
  have k5 : k ≤ 5 := by omega
  have hL := hc.2.2.1
  rw [hk] at hL
  have u60 := upS_60 (H := ruF (M 2) 30) (l := -4) hv ok.1 k5 hL
  have b256 := sc_b cn (by have := ok.1; omega)
  refine mL3_i ⟨by decide, Nat.le_of_ble_eq_true rfl⟩ (fun K hK => q_L_mean_0 hK v x M (br_f (by omega) (br_f (by omega) ⟨_, _, R_isPart 8 M x, br_t (b2_n0.mpr c) (cI (L_run 7 hc (FrL_refl M) hcn ok.1) (fun w m1 p => ?_))⟩)))
  have loop : ∀ (j i : Nat), i + j = 2 ^ cn → ∀ m' : mMem, RuL M m' (ruF (M 2) 30) cn → K 45 [(0, vr 0), (1, vi v), (2, vi x), (3, vl (upS M (ruF (M 2) 30) cn k v (-4) i)), (5, vi ((2 ^ cn : Nat) : Int)), (6, vi (i : Int))] [] (S0, m') := by
    intro j
    induction j with
    | zero =>
      intro i hi m' h1
      rw [show i = 2 ^ cn by omega]
      exact q_L_mean_45 hK _ _ _ _ _ m' (br_t (Int.le_refl _) ⟨_, _, L_frac 7 (RuL_15 h1) ok.1 u60.1 u60.2, rL_i ⟨rfl, h1.1⟩⟩)
    | succ j ih =>
      intro i hi m' h1
      have h4 := ih (i + 1) (by omega)
      rw [upS_s, if_neg (by decide)] at h4
      have ew : w32 ((i : Int) + 1) = ((i + 1 : Nat) : Int) := by rw [w32_s (by omega) (by omega)]; omega
      have lt : ¬ ((2 ^ cn : Nat) : Int) ≤ (i : Int) := by omega
      refine q_L_mean_45 hK _ _ _ _ _ m' (br_f lt (cN (L_let 6 ok h1 (i : Int)) (fun m2 p2 => ?_)))
      obtain ⟨q1, q2, q3⟩ := p2
      refine ⟨_, _, L_wei 8 (RuL_15 q2) ok.1 (i : Int) v, _, _, T_worth 6 q1 hk k5, ?_⟩
      rw [ew]
      exact h4 m2 q2
  have e15 : m1 0 15 = cn := RuL_15 p.2
  refine br_t (by rw [p.1]; decide) ?_
  rw [e15, sc_v cn (by have := ok.1; omega)]
  exact loop (2 ^ cn) 0 (by omega) m1 p.2
theorem luck_L {M : mMem} (hc : Cht M 1) {v l x : Int} (hv : 0 ≤ v ∧ v ≤ 10) (hl : 0 ≤ l ∧ l < M 1 5) (c : x = 0 ∨ x = 1) {cn k : Nat} (hk : M 1 5 = k) (hcn : RcP M cn) (ok : RuOK M (ruF (M 2) 30) cn) : mL3 10 71 [vr 0, vi v, vi l, vi x] M (fun w m => w = frV cn (upS M (ruF (M 2) 30) cn k v l (2 ^ cn)) x ∧ FrL m M) := by
  have n5 : 0 ≤ M 1 5 ∧ M 1 5 ≤ 5 := hc.2.1
  have k5 : k ≤ 5 := by omega
  have hL := hc.2.2.1
  rw [hk] at hL
  have u60 := upS_60 (H := ruF (M 2) 30) (l := l) hv ok.1 k5 hL
  have b256 := sc_b cn (by have := ok.1; omega)
  have l4 : l ≠ -4 := by omega
  refine mL3_i ⟨by decide, Nat.le_of_ble_eq_true rfl⟩ (fun K hK => q_L_luck_0 hK v l x M (br_f (by omega) (br_f (by omega) ⟨_, _, R_isLaw 8 M l, br_f (fun q => b2_0.mp q hl) ⟨_, _, R_isPart 8 M x, br_t (b2_n0.mpr c) (cI (L_run 7 hc (FrL_refl M) hcn ok.1) (fun w m1 p => ?_))⟩⟩)))
  have loop : ∀ (j i : Nat), i + j = 2 ^ cn → ∀ m' : mMem, RuL M m' (ruF (M 2) 30) cn → K 54 [(0, vr 0), (1, vi v), (2, vi l), (3, vi x), (4, vl (upS M (ruF (M 2) 30) cn k v l i)), (6, vi ((2 ^ cn : Nat) : Int)), (7, vi (i : Int))] [] (S0, m') := by
    intro j
    induction j with
    | zero =>
      intro i hi m' h1
      rw [show i = 2 ^ cn by omega]
      exact q_L_luck_54 hK _ _ _ _ _ _ m' (br_t (Int.le_refl _) ⟨_, _, L_frac 7 (RuL_15 h1) ok.1 u60.1 u60.2, rL_i ⟨rfl, h1.1⟩⟩)
    | succ j ih =>
      intro i hi m' h1
      have h4 := ih (i + 1) (by omega)
      rw [upS_s, if_pos l4] at h4
      have ew : w32 ((i : Int) + 1) = ((i + 1 : Nat) : Int) := by rw [w32_s (by omega) (by omega)]; omega
      have lt : ¬ ((2 ^ cn : Nat) : Int) ≤ (i : Int) := by omega
      refine q_L_luck_54 hK _ _ _ _ _ _ m' (br_f lt (cN (L_let 6 ok h1 (i : Int)) (fun m2 p2 => ?_)))
      obtain ⟨q1, q2, q3⟩ := p2
      refine ⟨_, _, T_reads 7 q1 hl, ?_⟩
      rw [ew]
      refine ⟨fun z => ?_, fun z => ⟨_, _, L_wei 8 (RuL_15 q2) ok.1 (i : Int) v, ?_⟩⟩
      · rw [if_pos z] at h4
        exact h4 m2 q2
      · rw [if_neg z] at h4
        exact h4 m2 q2
  have e15 : m1 0 15 = cn := RuL_15 p.2
  refine br_t (by rw [p.1]; decide) ?_
  rw [e15, sc_v cn (by have := ok.1; omega)]
  exact loop (2 ^ cn) 0 (by omega) m1 p.2
end
section
/-! PURE PROOFS 56: luck and mean, the other -/
theorem ru_cong {f g : Int → Int} (h : ∀ i : Int, 0 ≤ i → i < 36 → f i = g i) : ∀ n : Nat, n ≤ 30 → lrC f n = lrC g n ∧ ruF f n = ruF g n
  | 0, _ => ⟨rfl, rfl⟩
  | n + 1, q => by
    obtain ⟨a, b⟩ := ru_cong h n (by omega)
    rw [lrC_s, lrC_s, ruF_s, ruF_s, a, b, h (n : Nat) (by omega) (by omega), h ((n : Nat) + 6) (by omega) (by omega)]
    exact ⟨rfl, rfl⟩
def RuM (M m0 m : mMem) (H : Int → Int) (cn : Nat) : Prop := FrM m m0 ∧ (∀ i : Int, 0 ≤ i → i < 85 → m 54 i = M 54 i) ∧ ∀ i : Int, 0 ≤ i → i < cn → m 59 i = H i
theorem M_run (d : Nat) {M m0 : mMem} {cn : Nat} (hg : Pg M 1 0) (m54 : ∀ i : Int, 0 ≤ i → i < 85 → m0 54 i = M 54 i) (hcn : RcP M cn) : mI3 (d + 1) 168 [vr 53] m0 (fun v m' => v = cn ∧ RuM M m0 m' (ruF (M 2) 30) cn) := by
  have hp := Pg0_of hg
  have cg := ru_cong (f := m0 54) (g := M 2) (fun i a b => by rw [m54 i a (by omega), hp.1 i a b]) 30 (by omega)
  have hcn : lrC (M 2) 30 = cn := hcn
  refine ⟨_, _, ⟨?_, ⟨fun k _ _ a _ _ => lrM_ne m0 _ a 30, ?_, ?_, ?_, ?_, fun i _ _ => ?_⟩, fun i a b => ?_, fun i a b => ?_⟩, R_laysRunning d m0⟩
  · rw [cg.1, hcn]
  · rw [lrM_ne m0 _ (by decide) 30]
  · rw [lrM_ne m0 _ (by decide) 30]
  · rw [lrM_ne m0 _ (by decide) 30]
  · rw [lrM_ne m0 _ (by decide) 30]
  · rw [lrM_ne m0 _ (by decide) 30]
  · rw [lrM_ne m0 _ (by decide) 30, m54 i a b]
  · rw [lrM_59 m0 (m0 54) 30 i a (by rw [cg.1, hcn]; exact b), cg.2]
theorem M_run0 (d : Nat) {M m0 : mMem} (hg : Pg M 1 0) (m54 : ∀ i : Int, 0 ≤ i → i < 85 → m0 54 i = M 54 i) (h : 8 < lrC (M 2) 30) : mI3 (d + 1) 168 [vr 53] m0 (fun v m' => 8 < v ∧ FrM m' m0) := by
  have hp := Pg0_of hg
  have cg := ru_cong (f := m0 54) (g := M 2) (fun i a b => by rw [m54 i a (by omega), hp.1 i a b]) 30 (by omega)
  refine ⟨_, _, ⟨?_, ⟨fun k _ _ a _ _ => lrM_ne m0 _ a 30, ?_, ?_, ?_, ?_, fun i _ _ => ?_⟩⟩, R_laysRunning d m0⟩
  · rw [cg.1]
    exact h
  · rw [lrM_ne m0 _ (by decide) 30]
  · rw [lrM_ne m0 _ (by decide) 30]
  · rw [lrM_ne m0 _ (by decide) 30]
  · rw [lrM_ne m0 _ (by decide) 30]
  · rw [lrM_ne m0 _ (by decide) 30]
theorem M_by (d : Nat) {M m0 : mMem} {v l x : Int} {cn k : Nat} (hg : Pg M 1 0) (hc : Cht M 1) (hv : 0 ≤ v ∧ v ≤ 10) (hl : l = -4 ∨ (0 ≤ l ∧ l < M 1 5)) (hk : M 1 5 = k) (m54 : ∀ i : Int, 0 ≤ i → i < 85 → m0 54 i = M 54 i) (hcn : RcP M cn) (ok : RuOK M (ruF (M 2) 30) cn) : mL3 (d + 4) 169 [vr 53, vi v, vi l, vi x] m0 (fun w m' => w = frV cn (upS M (ruF (M 2) 30) cn k v l (2 ^ cn)) x ∧ FrM m' m0) := by
  have n5 : 0 ≤ M 1 5 ∧ M 1 5 ≤ 5 := hc.2.1
  have k5 : k ≤ 5 := by omega
  have hL := hc.2.2.1
  rw [hk] at hL
  have u60 : ∀ _ : True, 0 ≤ upS M (ruF (M 2) 30) cn k v l (2 ^ cn) ∧ upS M (ruF (M 2) 30) cn k v l (2 ^ cn) < 2 ^ 60 := fun _ => upS_60 (H := ruF (M 2) 30) (l := l) hv ok.1 k5 hL
  have bw : ∀ _ : True, 0 < beW cn := fun _ => by
    have b := beW_rng cn (by have := ok.1; omega)
    omega
  have b256 : ∃ N : Nat, N = 2 ^ cn ∧ N ≤ 256 := ⟨_, rfl, sc_b cn (by have := ok.1; omega)⟩
  obtain ⟨N, hN, b256⟩ := b256
  have sv : ∀ _ : True, jshl 1 (cn : Int) = (N : Int) := fun _ => by
    rw [hN]
    exact sc_v cn (by have := ok.1; omega)
  rw [← hN]
  rw [← hN] at u60
  clear hN
  have urg := fun q hq => upS_rng hv ok.1 k5 hL (H := ruF (M 2) 30) (l := l) q hq
  obtain ⟨o1, o2, o3⟩ := ok
  refine mL3_i ⟨by decide, Nat.le_of_ble_eq_true rfl⟩ (fun K hK => q_M_byRuns_0 hK v l x m0 (cI (M_run (d + 2) hg m54 hcn) (fun cv m1 p => ?_)))
  obtain ⟨pc, p⟩ := p
  rw [pc]
  generalize ruF (M 2) 30 = H at *
  have l39 : ∀ (j i : Nat), i + j = N → ∀ m' : mMem, RuM M m0 m' H cn → K 39 [(0, vr 53), (1, vi v), (2, vi l), (3, vi x), (4, vi (cn : Int)), (5, vl (upS M H cn k v l i)), (7, vl (beW cn)), (9, vi (i : Int))] [] (S0, m') := by
    intro j
    induction j with
    | zero =>
      intro i hi m' h1
      rw [show i = N by omega]
      exact q_M_byRuns_39 hK _ _ _ _ _ _ _ m' (br_t (by rw [sv trivial]; exact Int.le_refl _) ⟨_, _, M_low (d + 2) m' (u60 trivial).1 (bw trivial), rL_i ⟨rfl, h1.1⟩⟩)
    | succ j ih =>
      intro i hi m' h1
      have h4 := ih (i + 1) (by omega)
      have ug := urg i (by omega)
      rw [upS_s] at h4
      have ew : w32 ((i : Int) + 1) = ((i + 1 : Nat) : Int) := by rw [w32_s (by omega) (by omega)]; omega
      have lt : ¬ (N : Int) ≤ (i : Int) := by omega
      have w8 := weF_8 hv (q := (i : Int)) o1
      have i256 : (i : Int) ≤ 256 := by omega
      generalize upS M H cn k v l i = u at h4 ug
      refine q_M_byRuns_39 hK _ _ _ _ _ _ _ m' (br_f (by rw [sv trivial]; exact lt) ⟨_, R_copies (d + 2) m' 0 340 (by omega) (by omega) (by omega), ?_⟩)
      have inner : ∀ (j2 i2 : Nat), i2 + j2 = cn → ∀ m2 : mMem, PgC m2 M 340 (rmF (M 2) H (i : Int) i2) (M 3) → RuM M m0 m2 H cn → K 62 [(0, vr 53), (1, vi v), (2, vi l), (3, vi x), (4, vi (cn : Int)), (5, vl u), (7, vl (beW cn)), (9, vi (i : Int)), (10, vl (weF v (i : Int) i2)), (12, vi (i2 : Int))] [] (S0, m2) := by
        intro j2
        induction j2 with
        | zero =>
          intro i2 hi2 m2 g1 g2
          rw [show i2 = cn by omega] at g1 ⊢
          generalize weF v (i : Int) cn = w0 at w8 h4
          have e0 : w64 (u + w64 (w0 * 0)) = u := by
            rw [Int.mul_zero, show w64 0 = 0 from rfl, Int.add_zero]
            exact w64_id ⟨by omega, by omega⟩
          have e1 : w64 (w0 * 1) = w0 := by
            rw [Int.mul_one]
            exact w64_id ⟨by omega, by omega⟩
          refine q_M_byRuns_62 hK _ _ _ _ _ _ _ _ _ m2 (br_t (Int.le_refl _) ⟨fun y => ⟨_, _, G_reads (d + 1) g1 (by omega) hc (by omega), ?_⟩, fun y => ⟨_, _, G_worth d g1 (by omega) hc hk k5, ?_⟩⟩)
          · rw [if_pos y] at h4
            rw [ew, e0, e1]
            refine ⟨fun y2 => ?_, fun y2 => ?_⟩
            · rw [if_pos y2] at h4
              exact h4 m2 g2
            · rw [if_neg y2] at h4
              exact h4 m2 g2
          · rw [if_neg y] at h4
            rw [ew]
            exact h4 m2 g2
        | succ j2 ih2 =>
          intro i2 hi2 m2 g1 g2
          have f4 := ih2 (i2 + 1) (by omega)
          rw [weF_s, rmF_s] at f4
          generalize weF v (i : Int) i2 = w0 at f4
          generalize rmF (M 2) H (i : Int) i2 = g' at g1 f4
          generalize (i : Int) = q at *
          have hz : ∃ z : Int, z = (i2 : Int) := ⟨_, rfl⟩
          obtain ⟨z, hz⟩ := hz
          have ez : ((i2 + 1 : Nat) : Int) = z + 1 := by omega
          rw [ez, ← hz] at f4
          rw [← hz]
          have zb : 0 ≤ z ∧ z < cn ∧ z < 8 := by omega
          clear hz ez hi2 ih2
          have ez1 : w32 (z + 1) = z + 1 := w32_s (by omega) (by omega)
          have hb := (o2 z (by omega) (by omega)).1
          have e59 : m2 59 z = H z := g2.2.2 z (by omega) (by omega)
          have w6 : w32 (w32 (340 + H z) + 6) = 340 + (H z + 6) := by
            rw [w32_s (z := 340 + H z) (by omega) (by omega), w32_s (by omega) (by omega)]
            omega
          refine q_M_byRuns_62 hK _ _ _ _ _ _ _ _ _ m2 (br_f (by omega) ⟨fun y => q_M_byRuns_85 hK _ _ _ _ _ _ _ _ _ 0 m2 (br_t rfl (q_M_byRuns_104 hK _ _ _ _ _ _ _ _ 0 _ _ m2 (br_t rfl ?_))), fun y => q_M_byRuns_85 hK _ _ _ _ _ _ _ _ _ 1 m2 (br_f (by decide) (q_M_byRuns_104 hK _ _ _ _ _ _ _ _ 1 _ _ m2 (br_f (by decide) ?_)))⟩)
          · rw [if_pos y, if_pos y] at f4
            rw [ez1]
            exact f4 m2 g1 g2
          · rw [if_neg y, if_neg y] at f4
            rw [ez1, e59, w6]
            refine mIn_i (by omega) (by omega) (mIn_i (by omega) (by omega) (f4 _ (G_set g1 hc (by omega)) ⟨FrM_set g2.1 (by omega), fun a b c => ?_, fun a b c => ?_⟩))
            · rw [mupd_at, fup_ne _ _ (by omega), g2.2.1 a b c]
            · rw [mupd_ne _ _ _ (by decide), g2.2.2 a b c]
      refine inner cn 0 (by omega) _ (G_copy hg hc h1.2.1) ⟨FrM_cpy h1.1 (by decide), fun a b c => ?_, fun a b c => ?_⟩
      · unfold mcpy
        rw [if_neg (by omega), h1.2.1 a b c]
      · rw [mcpy_ne _ _ _ _ _ (by decide), h1.2.2 a b c]
  have l15 : ∀ (j i : Nat), i + j = cn → K 15 [(0, vr 53), (1, vi v), (2, vi l), (3, vi x), (4, vi (cn : Int)), (5, vl ((0 : Nat) : Int)), (7, vl (beW i)), (9, vi (i : Int))] [] (S0, m1) := by
    intro j
    induction j with
    | zero =>
      intro i hi
      rw [show i = cn by omega]
      exact q_M_byRuns_15 hK _ _ _ _ _ _ _ m1 (br_t (Int.le_refl _) (l39 N 0 (by omega) m1 p))
    | succ j ih =>
      intro i hi
      have ew : w32 ((i : Int) + 1) = ((i + 1 : Nat) : Int) := by rw [w32_s (by omega) (by omega)]; omega
      have lt : ¬ (cn : Int) ≤ (i : Int) := by omega
      refine q_M_byRuns_15 hK _ _ _ _ _ _ _ m1 (br_f lt ?_)
      rw [ew]
      exact ih (i + 1) (by omega)
  exact l15 cn 0 (by omega)
end
section
/-! PURE PROOFS 57: luck, mean -/
def PairL (y1 y2 : Nat) (as : List mVal) (M : mMem) : Prop := ∃ v m1 m2, mR3 10 y1 (vr 0 :: as) (S0, M) (some (vl v), (S0, m1)) ∧ mR3 10 y2 (vr 53 :: as) (S0, m1) (some (vl v), (S0, m2)) ∧ Inv m2
theorem ask_pairL {y1 y2 : Nat} {as : List mVal} {M : mMem} {V : Int} (h : Inv M) (a : mL3 10 y1 (vr 0 :: as) M (fun v m => v = V ∧ FrL m M)) (b : ∀ m, FrL m M → mL3 10 y2 (vr 53 :: as) m (fun v m' => v = V ∧ FrM m' m)) : PairL y1 y2 as M := by
  obtain ⟨v, m, ⟨e, f⟩, r⟩ := a
  obtain ⟨v', m', ⟨e', f'⟩, r'⟩ := b m f
  rw [e] at r
  rw [e'] at r'
  exact ⟨V, m, m', r, r', Inv_fr h (Fr_trans (FrM_fr f') (FrL_fr f))⟩
theorem P_mean {M : mMem} (h : Inv M) (v x : Int) : PairL 72 171 [vi v, vi x] M := by
  have hc := h.1
  have n5 : 0 ≤ M 1 5 ∧ M 1 5 ≤ 5 := hc.2.1
  obtain ⟨k, hk⟩ : ∃ k : Nat, M 1 5 = k := ⟨(M 1 5).toNat, by omega⟩
  by_cases c : (0 ≤ v ∧ v ≤ 10) ∧ (x = 0 ∨ x = 1)
  · rcases ru_get M with big | ⟨cn, hcn, ok⟩
    · refine ask_pairL (V := -2) h ?_ (fun m hm => ?_)
      · exact mL3_i ⟨by decide, Nat.le_of_ble_eq_true rfl⟩ (fun K hK => q_L_mean_0 hK v x M (br_f (by omega) (br_f (by omega) ⟨_, _, R_isPart 8 M x, br_t (b2_n0.mpr c.2) (cI (L_run0 7 hc (FrL_refl M) big) (fun w m1 p => br_f (fun q => q p.1) (rL_i ⟨rfl, p.2⟩)))⟩)))
      · refine mL3_i ⟨by decide, Nat.le_of_ble_eq_true rfl⟩ (fun K hK => q_M_mean_0 hK v x m ⟨_, _, R_in 8 _ _ _ _, br_f (fun q => b2_0.mp q (by omega)) ⟨_, _, R_in 8 _ _ _ _, br_t (b2_n0.mpr (by omega)) (cI (M_run0 8 h.2.1 (fun i a b => by rw [(FrL_lo hm).2]) big) (fun w m1 p => ?_))⟩⟩)
        have p1 := p.1
        exact br_f (by omega) (rL_i ⟨rfl, p.2⟩)
    · refine ask_pairL h (mean_L hc c.1 c.2 hk hcn ok) (fun m hm => ?_)
      refine mL3_i ⟨by decide, Nat.le_of_ble_eq_true rfl⟩ (fun K hK => q_M_mean_0 hK v x m ⟨_, _, R_in 8 _ _ _ _, br_f (fun q => b2_0.mp q (by omega)) ⟨_, _, R_in 8 _ _ _ _, br_t (b2_n0.mpr (by omega)) (cI (M_run 8 h.2.1 (fun i a b => by rw [(FrL_lo hm).2]) hcn) (fun w m1 p => ?_))⟩⟩)
      have p1 := p.1
      have o1 := ok.1
      exact br_t (by omega) (cL (M_by 5 (x := x) h.2.1 hc c.1 (Or.inl rfl) hk p.2.2.1 hcn ok) (fun u m2 p2 => rL_i ⟨p2.1, FrM_trans p2.2 p.2.1⟩))
  · refine ⟨-1, M, M, ⟨⟨by decide, Nat.le_of_ble_eq_true rfl⟩, fun K hK => q_L_mean_0 hK v x M ⟨fun _ => mret_l rfl rfl, fun q => ⟨fun _ => mret_l rfl rfl, fun q1 => ⟨_, _, R_isPart 8 M x, br_f (fun q2 => c ⟨by omega, b2_n0.mp q2⟩) (mret_l rfl rfl)⟩⟩⟩⟩, ⟨⟨by decide, Nat.le_of_ble_eq_true rfl⟩, fun K hK => q_M_mean_0 hK v x M ⟨_, _, R_in 8 _ _ _ _, ⟨fun _ => mret_l rfl rfl, fun q => ⟨_, _, R_in 8 _ _ _ _, br_f (fun q2 => ?_) (mret_l rfl rfl)⟩⟩⟩⟩, h⟩
    have q := b2_n0.mp q
    have q2 := b2_n0.mp q2
    exact c ⟨q, by omega⟩
theorem P_luck {M : mMem} (h : Inv M) (v l x : Int) : PairL 71 170 [vi v, vi l, vi x] M := by
  have hc := h.1
  have n5 : 0 ≤ M 1 5 ∧ M 1 5 ≤ 5 := hc.2.1
  have p3 : M 54 39 = M 1 5 := (Pg0_of h.2.1).2.2.1
  obtain ⟨k, hk⟩ : ∃ k : Nat, M 1 5 = k := ⟨(M 1 5).toNat, by omega⟩
  by_cases c : (0 ≤ v ∧ v ≤ 10) ∧ (0 ≤ l ∧ l < M 1 5) ∧ (x = 0 ∨ x = 1)
  · rcases ru_get M with big | ⟨cn, hcn, ok⟩
    · refine ask_pairL (V := -2) h ?_ (fun m hm => ?_)
      · exact mL3_i ⟨by decide, Nat.le_of_ble_eq_true rfl⟩ (fun K hK => q_L_luck_0 hK v l x M (br_f (by omega) (br_f (by omega) ⟨_, _, R_isLaw 8 M l, br_f (fun q => b2_0.mp q c.2.1) ⟨_, _, R_isPart 8 M x, br_t (b2_n0.mpr c.2.2) (cI (L_run0 7 hc (FrL_refl M) big) (fun w m1 p => br_f (fun q => q p.1) (rL_i ⟨rfl, p.2⟩)))⟩⟩)))
      · have m39 : m 54 39 = M 1 5 := by rw [(FrL_lo hm).2, p3]
        refine mL3_i ⟨by decide, Nat.le_of_ble_eq_true rfl⟩ (fun K hK => q_M_luck_0 hK v l x m ⟨_, _, R_in 8 _ _ _ _, br_f (fun q => b2_0.mp q (by omega)) ⟨_, _, R_mIsLaw 7 m l (by rw [m39]; exact n5), br_f (fun q => b2_0.mp q (by rw [m39]; exact c.2.1)) ⟨_, _, R_in 8 _ _ _ _, br_t (b2_n0.mpr (by omega)) (cI (M_run0 8 h.2.1 (fun i a b => by rw [(FrL_lo hm).2]) big) (fun w m1 p => ?_))⟩⟩⟩)
        have p1 := p.1
        exact br_f (by omega) (rL_i ⟨rfl, p.2⟩)
    · refine ask_pairL h (luck_L hc c.1 c.2.1 c.2.2 hk hcn ok) (fun m hm => ?_)
      have m39 : m 54 39 = M 1 5 := by rw [(FrL_lo hm).2, p3]
      refine mL3_i ⟨by decide, Nat.le_of_ble_eq_true rfl⟩ (fun K hK => q_M_luck_0 hK v l x m ⟨_, _, R_in 8 _ _ _ _, br_f (fun q => b2_0.mp q (by omega)) ⟨_, _, R_mIsLaw 7 m l (by rw [m39]; exact n5), br_f (fun q => b2_0.mp q (by rw [m39]; exact c.2.1)) ⟨_, _, R_in 8 _ _ _ _, br_t (b2_n0.mpr (by omega)) (cI (M_run 8 h.2.1 (fun i a b => by rw [(FrL_lo hm).2]) hcn) (fun w m1 p => ?_))⟩⟩⟩)
      have p1 := p.1
      have o1 := ok.1
      exact br_t (by omega) (cL (M_by 5 (x := x) h.2.1 hc c.1 (Or.inr c.2.1) hk p.2.2.1 hcn ok) (fun u m2 p2 => rL_i ⟨p2.1, FrM_trans p2.2 p.2.1⟩))
  · refine ⟨-1, M, M, ⟨⟨by decide, Nat.le_of_ble_eq_true rfl⟩, fun K hK => q_L_luck_0 hK v l x M ⟨fun _ => mret_l rfl rfl, fun q => ⟨fun _ => mret_l rfl rfl, fun q1 => ⟨_, _, R_isLaw 8 M l, ⟨fun _ => mret_l rfl rfl, fun q2 => ⟨_, _, R_isPart 8 M x, br_f (fun q3 => c ⟨by omega, b2_n0.mp q2, b2_n0.mp q3⟩) (mret_l rfl rfl)⟩⟩⟩⟩⟩⟩, ⟨⟨by decide, Nat.le_of_ble_eq_true rfl⟩, fun K hK => q_M_luck_0 hK v l x M ⟨_, _, R_in 8 _ _ _ _, ⟨fun _ => mret_l rfl rfl, fun q => ⟨_, _, R_mIsLaw 7 M l (by rw [p3]; exact n5), ⟨fun _ => mret_l rfl rfl, fun q1 => ⟨_, _, R_in 8 _ _ _ _, br_f (fun q2 => ?_) (mret_l rfl rfl)⟩⟩⟩⟩⟩⟩, h⟩
    have q := b2_n0.mp q
    have q1 := b2_n0.mp q1
    have q2 := b2_n0.mp q2
    rw [p3] at q1
    exact c ⟨q, q1, by omega⟩
end
section
/-! PURE PROOFS 58: a new object keeps what holds between two calls -/
theorem mz_ne (M : mMem) {k j : Nat} (h : j ≠ k) : mzero M k j = M j := by
  funext i
  unfold mzero
  rw [if_neg h]
theorem mz_at (M : mMem) (k : Nat) (i : Int) : mzero M k k i = 0 := by
  unfold mzero
  rw [if_pos rfl]
theorem mMn_lo (M : mMem) {j : Nat} (h : j < 54) : mMn M j = M j := by
  unfold mMn
  repeat' (first | rw [mz_ne _ (show j ≠ _ by omega)] | rw [mupd_ne _ _ _ (show j ≠ _ by omega)])
theorem mS1_ne (M : mMem) {k j : Nat} (h : j < k ∨ k + 1 < j) : mS1 M k j = M j := by
  unfold mS1
  rw [mupd_ne _ _ _ (by omega), mz_ne _ (by omega), mz_ne _ (by omega)]
theorem mCin_ne (M : mMem) {k j : Nat} (h : j < k ∨ k + 8 ≤ j) : mCin M k j = M j := by
  unfold mCin mclear
  rw [mupd_ne _ _ _ (by omega), mupd_ne _ _ _ (by omega), mfill_ne _ _ _ (by omega), mupd_ne _ _ _ (by omega), mupd_ne _ _ _ (by omega), mfill_ne _ _ _ (by omega), mfill_ne _ _ _ (by omega), mfill_ne _ _ _ (by omega), mz_ne _ (by omega), mz_ne _ (by omega), mz_ne _ (by omega), mz_ne _ (by omega), mz_ne _ (by omega), mz_ne _ (by omega), mz_ne _ (by omega)]
theorem mLn_lo (M : mMem) {j : Nat} (h : j < 35) : mLn M j = mLn1 M j := by
  unfold mLn
  rw [mS1_ne _ (by omega), mS1_ne _ (by omega), mS1_ne _ (by omega), mS1_ne _ (by omega)]
  unfold mLn2
  repeat' (first | rw [mz_ne _ (show j ≠ _ by omega)])
theorem mLn1_lo (M : mMem) {j : Nat} (h : 1 ≤ j ∧ j < 9) : mLn1 M j = mCin (mzero M 1) 1 j := by
  unfold mLn1
  rw [mCin_ne _ (by omega), mz_ne _ (by omega), mz_ne _ (by omega), mCin_ne _ (by omega), mz_ne _ (by omega), mz_ne _ (by omega), mCin_ne _ (by omega), mz_ne _ (by omega)]
theorem M0_lo {j : Nat} (h : 1 ≤ j ∧ j < 9) : M0 j = mCin (mzero (mzero (fun _ _ => 0) 0) 1) 1 j := by
  unfold M0
  rw [mMn_lo _ (by omega), mz_ne _ (by omega), mLn_lo _ (by omega), mLn1_lo _ h]
theorem M0_1 (i : Int) : M0 1 i = 0 := by
  rw [M0_lo (by omega)]
  unfold mCin mclear
  rw [mupd_at]
  unfold fup
  split
  · rfl
  · rw [mupd_at]
    unfold fup
    split
    · rfl
    · rw [mfill_ne _ _ _ (by decide), mupd_ne _ _ _ (by decide), mupd_ne _ _ _ (by decide), mfill_ne _ _ _ (by decide), mfill_ne _ _ _ (by decide), mfill_ne _ _ _ (by decide), mz_ne _ (by decide), mz_ne _ (by decide), mz_ne _ (by decide), mz_ne _ (by decide), mz_ne _ (by decide), mz_ne _ (by decide), mz_ne _ (by decide), mz_at]
theorem M0_2 (i : Int) (h0 : 0 ≤ i) (h1 : i < 36) : M0 2 i = 0 := by
  rw [M0_lo (by omega)]
  unfold mCin mclear
  rw [mupd_ne _ _ _ (by decide), mupd_ne _ _ _ (by decide), mfill_ne _ _ _ (by decide), mupd_ne _ _ _ (by decide), mupd_ne _ _ _ (by decide), mfill_ne _ _ _ (by decide), mfill_ne _ _ _ (by decide)]
  exact mfill_at _ h0 (by omega)
theorem M0_3 (i : Int) (h0 : 0 ≤ i) (h1 : i < 4) : M0 3 i = 20 := by
  rw [M0_lo (by omega)]
  unfold mCin mclear
  rw [mupd_ne _ _ _ (by decide), mupd_ne _ _ _ (by decide)]
  exact mfill_at _ h0 (by omega)
theorem M0_7 (i : Int) (h0 : 0 ≤ i) (h1 : i < 25) : M0 7 i = if i = 0 then 30 else 0 := by
  rw [M0_lo (by omega)]
  unfold mCin mclear
  rw [mupd_ne _ _ _ (by decide), mupd_ne _ _ _ (by decide), mfill_ne _ _ _ (by decide), mupd_ne _ _ _ (by decide)]
  refine (congrFun (mupd_at _ 7 0 30) i).trans ?_
  unfold fup
  split
  · rfl
  · rw [mfill_ne _ _ _ (by decide)]
    exact mfill_at _ h0 (by omega)
theorem M0_8 (i : Int) (h0 : 0 ≤ i) (h1 : i < 25) : M0 8 i = if i = 0 then 30 else 0 := by
  rw [M0_lo (by omega)]
  unfold mCin mclear
  rw [mupd_ne _ _ _ (by decide), mupd_ne _ _ _ (by decide), mfill_ne _ _ _ (by decide)]
  refine (congrFun (mupd_at _ 8 0 30) i).trans ?_
  unfold fup
  split
  · rfl
  · rw [mupd_ne _ _ _ (by decide)]
    exact mfill_at _ h0 (by omega)
theorem M0_54 (i : Int) : M0 54 i = 0 := rfl
theorem M0_63 (i : Int) : M0 63 i = 0 := rfl
theorem M0_53 (i : Int) : M0 53 i = 0 := by
  unfold M0
  rw [mMn_lo _ (by omega)]
  exact mz_at _ 53 i
theorem M0_35 (i : Int) : M0 35 i = 0 := rfl
theorem M0_0 (i : Int) : M0 0 i = 0 := by
  unfold M0
  rw [mMn_lo _ (by omega), mz_ne _ (by omega), mLn_lo _ (by omega)]
  unfold mLn1
  rw [mCin_ne _ (by omega), mz_ne _ (by omega), mz_ne _ (by omega), mCin_ne _ (by omega), mz_ne _ (by omega), mz_ne _ (by omega), mCin_ne _ (by omega), mz_ne _ (by omega), mCin_ne _ (by omega), mz_ne _ (by omega)]
  exact mz_at _ 0 i
theorem M0_17 (i : Int) : M0 17 i = 0 := by
  unfold M0
  rw [mMn_lo _ (by omega), mz_ne _ (by omega), mLn_lo _ (by omega)]
  unfold mLn1
  rw [mCin_ne _ (by omega), mz_ne _ (by omega), mz_ne _ (by omega), mCin_ne _ (by omega), mz_ne _ (by omega)]
  exact mz_at _ 17 i
theorem M0_26 (i : Int) : M0 26 i = 0 := by
  unfold M0
  rw [mMn_lo _ (by omega), mz_ne _ (by omega), mLn_lo _ (by omega)]
  unfold mLn1
  rw [mCin_ne _ (by omega), mz_ne _ (by omega)]
  exact mz_at _ 26 i
theorem M0_sh : ∀ k : Nat, k < 4 → M0 (45 + 2 * k) 2 = -1 ∧ M0 64 k = -4 := by decide +kernel
theorem Inv0 : Inv M0 := by
  have b5 : M0 1 5 = 0 := M0_1 5
  have b6 : M0 1 6 = 0 := M0_1 6
  have z2 : ∀ a c : Int, 0 ≤ a ∧ a ≤ 4 → 0 ≤ c ∧ c ≤ 4 → cB (M0 2) a c = (if 5 * a + c = 0 then 30 else 0) ∧ cA (M0 2) a c = (if 5 * a + c = 0 then 30 else 0) := by
    intro a c ha hc
    rw [cB_cong (g := fun _ => 0) M0_2, cA_cong (g := fun _ => 0) M0_2]
    by_cases q : 5 * a + c = 0
    · rw [if_pos q, show a = 0 by omega, show c = 0 by omega]
      exact ⟨by decide +kernel, by decide +kernel⟩
    · rw [if_neg q]
      refine ⟨?_, ?_⟩
      · exact (sm_cong (h := fun _ => 0) (fun k _ => b2_f (fun w => q (by have u : (0 : Int) = a := w.1; have v : (0 : Int) = c := w.2; omega)))).trans (sm_0 30)
      · exact (sm_cong (h := fun _ => 0) (fun k _ => b2_f (fun w => q (by have u : (0 : Int) = a := w.2.1; have v : (0 : Int) = c := w.2.2; omega)))).trans (sm_0 36)
  refine ⟨⟨⟨fun i a b => ?_, fun a c ha hc => ?_, fun a c ha hc => ?_⟩, ?_, fun l a b => ?_, ?_, fun i a b => ?_, fun c a b => ?_⟩, Pg_of0 ⟨fun i a b => ?_, fun c a b => ?_, ?_, fun l x a b => ?_, ?_, fun i a b => ?_⟩, ⟨Or.inl (M0_17 1), ?_, fun q => ?_⟩, ⟨Or.inl (M0_26 1), ?_, fun q => ?_⟩, ⟨?_, ?_, ?_, fun i a b => ?_⟩, ⟨?_, ?_, fun i a b => ?_⟩, fun k hk => Or.inl (M0_sh k hk), ?_, rfl, rfl⟩
  · have e : M0 (1 + 1) i = 0 := M0_2 i a b
    omega
  · have e : M0 (1 + 6) (5 * a + c) = if 5 * a + c = 0 then 30 else 0 := M0_7 _ (by omega) (by omega)
    rw [e]
    exact (z2 a c ha hc).1.symm
  · have e : M0 (1 + 7) (5 * a + c) = if 5 * a + c = 0 then 30 else 0 := M0_8 _ (by omega) (by omega)
    rw [e]
    exact (z2 a c ha hc).2.symm
  · omega
  · exact absurd b (by omega)
  · omega
  · exact absurd b (by omega)
  · have e : M0 (1 + 2) c = 20 := M0_3 c (by omega) (by omega)
    omega
  · rw [M0_54, M0_2 i a b]
  · rw [M0_54, M0_3 c (by omega) (by omega)]
    rfl
  · rw [M0_54, b5]
  · exact absurd b (by omega)
  · rw [M0_54, b6]
  · exact absurd b (by omega)
  · rw [M0_63, M0_17]
  · rw [M0_17] at q
    exact absurd q (by decide)
  · rw [M0_63, M0_26]
  · rw [M0_26] at q
    exact absurd q (by decide)
  · rw [M0_35]
    decide
  · rw [M0_53, M0_35]
  · rw [M0_53, M0_35]
  · rw [M0_35] at b
    exact absurd b (by omega)
  · rw [M0_0]
    decide
  · rw [M0_53, M0_0]
  · rw [M0_0] at b
    exact absurd b (by omega)
  · rw [M0_0, M0_53]
end
