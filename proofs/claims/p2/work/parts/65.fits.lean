/-! PURE PROOFS 43: what fits -/
def fiF (f H : Int → Int) (q : Int) : Nat → Int → Int
  | 0 => f
  | i + 1 => fup (fiF f H q i) (H (i : Nat)) (jand (jshr q (w32 (2 * ((i : Nat) : Int)))) 3)
theorem fiF_s (f H : Int → Int) (q : Int) (i : Nat) : fiF f H q (i + 1) = fup (fiF f H q i) (H (i : Nat)) (jand (jshr q (w32 (2 * ((i : Nat) : Int)))) 3) := rfl
theorem fiF_ext (f g H : Int → Int) (q : Int) : ∀ (n : Nat) (i : Int), (f i = g i ∨ ∃ j : Nat, j < n ∧ i = H j) → fiF f H q n i = fiF g H q n i
  | 0, i, h => by
    rcases h with h | ⟨j, h, _⟩
    · exact h
    · exact absurd h (by omega)
  | n + 1, i, h => by
    rw [fiF_s, fiF_s]
    by_cases z : i = H n
    · rw [z, fup_at, fup_at]
    · rw [fup_ne _ _ z, fup_ne _ _ z]
      refine fiF_ext f g H q n i ?_
      rcases h with h | ⟨j, h1, h2⟩
      · exact Or.inl h
      · refine Or.inr ⟨j, ?_, h2⟩
        by_cases y : j = n
        · rw [y] at h2
          exact absurd h2 z
        · omega
theorem fiF_out (f H : Int → Int) (q : Int) : ∀ (n : Nat) (i : Int), (∀ j : Nat, j < n → i ≠ H j) → fiF f H q n i = f i
  | 0, _, _ => rfl
  | n + 1, i, h => by
    rw [fiF_s, fup_ne _ _ (h n (by omega))]
    exact fiF_out f H q n i (fun j hj => h j (by omega))
def seB (M : mMem) (g : Int → Int) : Nat → Int
  | 0 => 1
  | i + 1 => if seB M g i = 1 ∧ M 40 (i : Nat) < M 1 5 ∧ rdL (M 4) g (M 40 (i : Nat)) = M 41 (i : Nat) then 1 else 0
theorem seB_s (M : mMem) (g : Int → Int) (i : Nat) : seB M g (i + 1) = if seB M g i = 1 ∧ M 40 (i : Nat) < M 1 5 ∧ rdL (M 4) g (M 40 (i : Nat)) = M 41 (i : Nat) then 1 else 0 := rfl
theorem seB_01 (M : mMem) (g : Int → Int) : ∀ i : Nat, seB M g i = 0 ∨ seB M g i = 1
  | 0 => Or.inr rfl
  | i + 1 => by
    rw [seB_s]
    split
    · exact Or.inr rfl
    · exact Or.inl rfl
theorem seB_0 (M : mMem) (g : Int → Int) (i : Nat) (h : seB M g i = 0) : ∀ j : Nat, seB M g (i + j) = 0
  | 0 => h
  | j + 1 => by
    have e := seB_0 M g i h j
    show seB M g (i + j + 1) = 0
    rw [seB_s, e, if_neg (by omega)]
theorem b3_rng (x : Int) : 0 ≤ jand x 3 ∧ jand x 3 ≤ 4 := by
  rw [jand_3]
  omega
theorem L_fits (d : Nat) {M m : mMem} {g H : Int → Int} {cn ns : Nat} (hc : Cht M 1) (h4 : cn ≤ 4) (hH : ∀ i : Int, 0 ≤ i → i < cn → 0 ≤ H i ∧ H i < 36) (hm : FrL m M) (ht : TrC m M g (M 3)) (hg : ∀ i : Int, 0 ≤ i → i < 36 → (∀ j : Nat, j < cn → i ≠ H j) → g i = M 2 i) (h14 : m 0 14 = cn) (h42 : ∀ i : Int, 0 ≤ i → i < cn → m 42 i = H i) (hs : SeI M) (hn : M 0 13 = ns) (q : Int) : mI3 (d + 3) 111 [vr 0, vi q] m (fun v m' => v = seB M (fiF (M 2) H q cn) ns ∧ TrC m' M (fiF (M 2) H q cn) (M 3) ∧ ∀ k : Nat, (k < 9 ∨ 17 ≤ k) → m' k = m k) := by
  have n6 : 0 ≤ M 0 13 ∧ M 0 13 ≤ 6 := hs.1
  refine mI3_i ⟨by decide, Nat.le_of_ble_eq_true rfl⟩ (fun K hK => q_L_fits_0 hK q m ?_)
  have l2 : ∀ m' : mMem, TrC m' M (fiF (M 2) H q cn) (M 3) → (∀ k : Nat, (k < 9 ∨ 17 ≤ k) → m' k = m k) → ∀ (j i : Nat), i + j = ns → seB M (fiF (M 2) H q cn) i = 1 → K 38 [(0, vr 0), (2, vi (i : Int))] [] (S0, m') := by
    intro m' h1 h2 j
    have e13 : m' 0 13 = M 0 13 := by rw [h2 0 (by omega), hm.2.1]
    have e40 : m' 40 = M 40 := by rw [h2 40 (by omega), hm.1 40 (by omega)]
    have e41 : m' 41 = M 41 := by rw [h2 41 (by omega), hm.1 41 (by omega)]
    have e5 : m' 9 5 = M 1 5 := h1.2.2.2.2.1
    induction j with
    | zero =>
      intro i hi h3
      rw [show i = ns by omega] at h3 ⊢
      exact q_L_fits_38 hK _ m' (br_t (by rw [e13, hn]; exact Int.le_refl _) (rI_i ⟨h3.symm, h1, h2⟩))
    | succ j ih =>
      intro i hi h3
      have h5 := ih (i + 1) (by omega)
      have z0 := seB_0 M (fiF (M 2) H q cn) (i + 1)
      have ss := seB_s M (fiF (M 2) H q cn) i
      have z0 := fun w => z0 w j
      rw [show i + 1 + j = ns by omega] at z0
      generalize seB M (fiF (M 2) H q cn) (i + 1) = s' at h5 ss z0
      rw [h3] at ss
      have g := hs.2.2 (i : Int) (by omega) (by omega)
      have hz : ∃ z : Int, z = (i : Int) := ⟨_, rfl⟩
      obtain ⟨z, hz⟩ := hz
      have ez : ((i + 1 : Nat) : Int) = z + 1 := by omega
      rw [ez] at h5
      rw [← hz] at ss g
      rw [← hz]
      have zb : 0 ≤ z ∧ z < M 0 13 := by omega
      clear hz ez hi ih
      have ew : w32 (z + 1) = z + 1 := w32_s (by omega) (by omega)
      have g1 : (0 ≤ M 40 z ∧ M 40 z ≤ 4) := g.2.2.1
      refine q_L_fits_38 hK _ m' (br_f (by rw [e13]; omega) ?_)
      rw [e40, e5, ew]
      refine mIn_i (by omega) (by omega) ⟨fun y => rI_i ⟨?_, h1, h2⟩, fun y => mIn_i (by omega) (by omega) ⟨_, _, T_reads d h1 (by omega), ?_⟩⟩
      · rw [if_neg (by omega)] at ss
        exact (z0 ss).symm
      · rw [e41]
        refine mIn_i (by omega) (by omega) ⟨fun y2 => ?_, fun y2 => rI_i ⟨?_, h1, h2⟩⟩
        · rw [if_pos ⟨rfl, by omega, y2⟩] at ss
          exact h5 ss
        · rw [if_neg (fun w => y2 w.2.2)] at ss
          exact (z0 ss).symm
  have l1 : ∀ (j i : Nat), i + j = cn → ∀ m' : mMem, TrC m' M (fiF g H q i) (M 3) → (∀ k : Nat, (k < 9 ∨ 17 ≤ k) → m' k = m k) → K 2 [(0, vr 0), (1, vi q), (2, vi (i : Int))] [] (S0, m') := by
    intro j
    induction j with
    | zero =>
      intro i hi m' h1 h2
      have e14 : m' 0 14 = cn := by rw [h2 0 (by omega), h14]
      rw [show i = cn by omega] at h1 ⊢
      refine q_L_fits_2 hK _ _ m' (br_t (by rw [e14]; exact Int.le_refl _) (l2 m' (T_cong h1 (fun z a b => ?_)) h2 ns 0 (by omega) rfl))
      refine fiF_ext g (M 2) H q cn z ?_
      by_cases y : ∀ j : Nat, j < cn → z ≠ H j
      · exact Or.inl (hg z a b y)
      · refine Or.inr (Classical.byContradiction (fun w => y (fun j hj e => w ⟨j, hj, e⟩)))
    | succ j ih =>
      intro i hi m' h1 h2
      have h5 := ih (i + 1) (by omega)
      have e14 : m' 0 14 = cn := by rw [h2 0 (by omega), h14]
      rw [fiF_s] at h5
      have hz : ∃ z : Int, z = (i : Int) := ⟨_, rfl⟩
      obtain ⟨z, hz⟩ := hz
      have ez : ((i + 1 : Nat) : Int) = z + 1 := by omega
      rw [ez, ← hz] at h5
      rw [← hz]
      have zb : 0 ≤ z ∧ z < cn ∧ z < 4 := by omega
      generalize fiF g H q i = g' at h1 h5
      clear hz ez hi ih
      have ew : w32 (z + 1) = z + 1 := w32_s (by omega) (by omega)
      have e42 : m' 42 z = H z := by rw [h2 42 (by omega), h42 _ (by omega) (by omega)]
      have hb := hH z (by omega) (by omega)
      have vb := b3_rng (jshr q (w32 (2 * z)))
      refine q_L_fits_2 hK _ _ m' (br_f (by rw [e14]; omega) ?_)
      rw [e42, ew]
      refine mIn_i (by omega) (by omega) ⟨_, R_put d m' 9 (by omega) (H z) _ hb vb h1.1.1.1, h5 _ (T_put h1 hb vb) (fun k hk => ?_)⟩
      rw [put_ne _ _ _ _ (by omega) (by omega) (by omega), h2 k hk]
  exact l1 cn 0 (by omega) m ht (fun _ _ => rfl)
