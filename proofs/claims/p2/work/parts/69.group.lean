/-! PURE PROOFS 47: groups of fills -/
def gc (M : mMem) (H : Int → Int) (cn ns : Nat) (l n : Int) : Nat → Int
  | 0 => 0
  | q + 1 => if ftN M H cn ns (q : Nat) = 0 then gc M H cn ns l n q else gc M H cn ns l n q + b2 (rdL (M 4) (fiN M H cn (q : Nat)) l = n)
theorem gc_s (M : mMem) (H : Int → Int) (cn ns : Nat) (l n : Int) (q : Nat) : gc M H cn ns l n (q + 1) = if ftN M H cn ns (q : Nat) = 0 then gc M H cn ns l n q else gc M H cn ns l n q + b2 (rdL (M 4) (fiN M H cn (q : Nat)) l = n) := rfl
theorem gc_rng (M : mMem) (H : Int → Int) (cn ns : Nat) (l n : Int) : ∀ q : Nat, 0 ≤ gc M H cn ns l n q ∧ gc M H cn ns l n q ≤ q
  | 0 => ⟨Int.le_refl _, Int.le_refl _⟩
  | q + 1 => by
    have h := gc_rng M H cn ns l n q
    have b := b2_01 (rdL (M 4) (fiN M H cn (q : Nat)) l = n)
    rw [gc_s]
    split <;> omega
def lgM (g : Int → Int) : Nat → Int
  | 0 => 0
  | n + 1 => if lgM g n ≤ g (n : Nat) then g (n : Nat) else lgM g n
theorem lgM_s (g : Int → Int) (n : Nat) : lgM g (n + 1) = if lgM g n ≤ g (n : Nat) then g (n : Nat) else lgM g n := rfl
theorem lgM_mx (g : Int → Int) : ∀ n : Nat, 0 ≤ lgM g n ∧ (∀ i : Int, 0 ≤ i → i < n → g i ≤ lgM g n) ∧ (lgM g n = 0 ∨ ∃ i : Int, 0 ≤ i ∧ i < n ∧ g i = lgM g n)
  | 0 => ⟨Int.le_refl _, fun i a b => absurd b (by omega), Or.inl rfl⟩
  | n + 1 => by
    obtain ⟨h0, h1, h2⟩ := lgM_mx g n
    rw [lgM_s]
    by_cases q : lgM g n ≤ g (n : Nat)
    · rw [if_pos q]
      refine ⟨by omega, fun i a b => ?_, Or.inr ⟨(n : Nat), by omega, by omega, rfl⟩⟩
      by_cases z : i = (n : Nat)
      · rw [z]
        exact Int.le_refl _
      · have := h1 i a (by omega)
        omega
    · rw [if_neg q]
      refine ⟨h0, fun i a b => ?_, ?_⟩
      · by_cases z : i = (n : Nat)
        · rw [z]
          omega
        · exact h1 i a (by omega)
      · rcases h2 with h2 | ⟨i, a, b, e⟩
        · exact Or.inl h2
        · exact Or.inr ⟨i, a, by omega, e⟩
def woM (M : mMem) (H : Int → Int) (cn ns : Nat) (l : Int) : Nat → Int
  | 0 => 0
  | q + 1 => if ftN M H cn ns (q : Nat) = 0 then woM M H cn ns l q else if gc M H cn ns l (rdL (M 4) (fiN M H cn (q : Nat)) l) (q + 1) ≤ woM M H cn ns l q then woM M H cn ns l q else gc M H cn ns l (rdL (M 4) (fiN M H cn (q : Nat)) l) (q + 1)
theorem woM_s (M : mMem) (H : Int → Int) (cn ns : Nat) (l : Int) (q : Nat) : woM M H cn ns l (q + 1) = if ftN M H cn ns (q : Nat) = 0 then woM M H cn ns l q else if gc M H cn ns l (rdL (M 4) (fiN M H cn (q : Nat)) l) (q + 1) ≤ woM M H cn ns l q then woM M H cn ns l q else gc M H cn ns l (rdL (M 4) (fiN M H cn (q : Nat)) l) (q + 1) := rfl
theorem woM_mx (M : mMem) (H : Int → Int) (cn ns : Nat) (l : Int) : ∀ q : Nat, 0 ≤ woM M H cn ns l q ∧ (∀ n : Int, gc M H cn ns l n q ≤ woM M H cn ns l q) ∧ (woM M H cn ns l q = 0 ∨ ∃ n : Int, 0 ≤ n ∧ n < 61 ∧ gc M H cn ns l n q = woM M H cn ns l q)
  | 0 => ⟨Int.le_refl _, fun _ => Int.le_refl _, Or.inl rfl⟩
  | q + 1 => by
    obtain ⟨h0, h1, h2⟩ := woM_mx M H cn ns l q
    rw [woM_s]
    by_cases z : ftN M H cn ns (q : Nat) = 0
    · have e : ∀ n, gc M H cn ns l n (q + 1) = gc M H cn ns l n q := fun n => by rw [gc_s, if_pos z]
      rw [if_pos z]
      refine ⟨h0, fun n => by rw [e n]; exact h1 n, ?_⟩
      rcases h2 with h2 | ⟨n, a, b, c⟩
      · exact Or.inl h2
      · exact Or.inr ⟨n, a, b, by rw [e n]; exact c⟩
    · have e : ∀ n, gc M H cn ns l n (q + 1) = gc M H cn ns l n q + b2 (rdL (M 4) (fiN M H cn (q : Nat)) l = n) := fun n => by rw [gc_s, if_neg z]
      have rr := rdL_rng (M 4) (fiN M H cn (q : Nat)) l
      rw [if_neg z]
      generalize rdL (M 4) (fiN M H cn (q : Nat)) l = r at e rr
      have er := e r
      rw [b2_t rfl] at er
      have eo : ∀ n, n ≠ r → gc M H cn ns l n (q + 1) = gc M H cn ns l n q := fun n hn => by rw [e n, b2_f (fun w => hn w.symm), Int.add_zero]
      have hr := h1 r
      by_cases y : gc M H cn ns l r (q + 1) ≤ woM M H cn ns l q
      · rw [if_pos y]
        refine ⟨h0, fun n => ?_, ?_⟩
        · by_cases w : n = r
          · rw [w]
            exact y
          · rw [eo n w]
            exact h1 n
        · rcases h2 with h2 | ⟨n, a, b, c⟩
          · exact Or.inl h2
          · by_cases w : n = r
            · rw [w] at c
              exact absurd y (by omega)
            · exact Or.inr ⟨n, a, b, by rw [eo n w]; exact c⟩
      · rw [if_neg y]
        refine ⟨by omega, fun n => ?_, Or.inr ⟨r, rr.1, by omega, rfl⟩⟩
        by_cases w : n = r
        · rw [w]
          exact Int.le_refl _
        · rw [eo n w]
          have := h1 n
          omega
theorem lg_wo (M : mMem) (H : Int → Int) (cn ns : Nat) (l : Int) (q : Nat) : lgM (fun n => gc M H cn ns l n q) 61 = woM M H cn ns l q := by
  obtain ⟨a0, a1, a2⟩ := lgM_mx (fun n => gc M H cn ns l n q) 61
  obtain ⟨b0, b1, b2⟩ := woM_mx M H cn ns l q
  have le1 : lgM (fun n => gc M H cn ns l n q) 61 ≤ woM M H cn ns l q := by
    rcases a2 with a2 | ⟨i, _, _, e⟩
    · omega
    · have := b1 i
      have e : gc M H cn ns l i q = lgM (fun n => gc M H cn ns l n q) 61 := e
      omega
  have le2 : woM M H cn ns l q ≤ lgM (fun n => gc M H cn ns l n q) 61 := by
    rcases b2 with b2 | ⟨i, x, y, e⟩
    · omega
    · have g : gc M H cn ns l i q ≤ lgM (fun n => gc M H cn ns l n q) 61 := a1 i x (by omega)
      omega
  omega
theorem HoL_43 {M m m' : mMem} {H : Int → Int} {cn : Nat} (h : HoL M m H cn) (e : ∀ k : Nat, k ≠ 43 → m' k = m k) : HoL M m' H cn := by
  obtain ⟨h1, ⟨g, h2, h3⟩, h4, h5⟩ := h
  refine ⟨FrL_row h1 (fun k _ _ _ _ a _ => e k a), ⟨g, T_eq h2 (fun k a b => e k (by omega)) (by rw [e 9 (by decide)]) (by rw [e 9 (by decide)]), h3⟩, ?_, fun i a b => ?_⟩
  · rw [e 0 (by decide), h4]
  · rw [e 42 (by decide), h5 i a b]
theorem L_group (d : Nat) {M m : mMem} {H : Int → Int} {cn ns : Nat} (hc : Cht M 1) (hs : SeI M) (ok : HoOK M H cn ns) (hm : HoL M m H cn) : mI3 (d + 4) 112 [vr 0] m (fun v m' => v = flS M H cn ns (4 ^ cn) ∧ HoL M m' H cn ∧ ∀ l n : Int, 0 ≤ l → l < M 1 5 → 0 ≤ n → n < 61 → m' 43 (61 * l + n) = gc M H cn ns l n (4 ^ cn)) := by
  have nb := fc_b cn (by have := ok.1; omega)
  have n5 : 0 ≤ M 1 5 ∧ M 1 5 ≤ 5 := hc.2.1
  obtain ⟨k, hk⟩ : ∃ k : Nat, M 1 5 = k := ⟨(M 1 5).toNat, by omega⟩
  have hs43 : S0.1[43]? = some (0, 305) := by decide +kernel
  refine mI3_i ⟨by decide, Nat.le_of_ble_eq_true rfl⟩ (fun K hK => q_L_groupByReads_0 hK m ⟨_, R_fill (d + 2) S0 m 43 305 0 hs43 (by decide), ?_⟩)
  have loop : ∀ (j i : Nat), i + j = 4 ^ cn → ∀ m' : mMem, HoL M m' H cn → (∀ l n : Int, 0 ≤ l → l < M 1 5 → 0 ≤ n → n < 61 → m' 43 (61 * l + n) = gc M H cn ns l n i) → K 17 [(0, vr 0), (1, vi (flS M H cn ns i)), (2, vi ((4 ^ cn : Nat) : Int)), (3, vi (i : Int))] [] (S0, m') := by
    intro j
    induction j with
    | zero =>
      intro i hi m' h1 h2
      rw [show i = 4 ^ cn by omega] at h2 ⊢
      exact q_L_groupByReads_17 hK _ _ _ m' (br_t (Int.le_refl _) (rI_i ⟨rfl, h1, h2⟩))
    | succ j ih =>
      intro i hi m' h1 h2
      have h4 := ih (i + 1) (by omega)
      have r := flS_rng M H cn ns i
      rw [flS_s] at h4
      have ew : w32 ((i : Int) + 1) = ((i + 1 : Nat) : Int) := by rw [w32_s (by omega) (by omega)]; omega
      have lt : ¬ ((4 ^ cn : Nat) : Int) ≤ (i : Int) := by omega
      have ib : (i : Int) ≤ 256 := by omega
      have gs := fun l n => gc_s M H cn ns l n i
      have gr := fun l n => gc_rng M H cn ns l n i
      generalize flS M H cn ns i = s at h4 r
      have w1 : w32 (s + 1) = s + 1 := w32_s (by omega) (by omega)
      refine q_L_groupByReads_17 hK _ _ _ m' (br_f lt (cI (L_fit2 d hc hs ok h1 (i : Int)) (fun v m2 p => ?_)))
      obtain ⟨p1, p2, p3, p4⟩ := p
      have b := ftN_01 M H cn ns (i : Int)
      rw [ew, w1]
      rw [← p1] at b h4
      have gs : ∀ l n, gc M H cn ns l n (i + 1) = if v = 0 then gc M H cn ns l n i else gc M H cn ns l n i + b2 (rdL (M 4) (fiN M H cn (i : Int)) l = n) := fun l n => by
        rw [p1]
        exact gs l n
      refine ⟨fun q => ?_, fun q => ?_⟩
      · rw [q, Int.add_zero] at h4
        refine h4 m2 p3 (fun l n a b c d => ?_)
        rw [p4 43 (by omega), h2 l n a b c d, gs l n, if_pos q]
      · rw [show v = 1 by omega] at h4
        have inner : ∀ (j2 l : Nat), l + j2 = k → ∀ m3 : mMem, HoL M m3 H cn → TrC m3 M (fiN M H cn (i : Int)) (M 3) → (∀ l' n : Int, 0 ≤ l' → l' < M 1 5 → 0 ≤ n → n < 61 → m3 43 (61 * l' + n) = if l' < (l : Int) then gc M H cn ns l' n (i + 1) else gc M H cn ns l' n i) → K 36 [(0, vr 0), (1, vi (s + 1)), (2, vi ((4 ^ cn : Nat) : Int)), (3, vi (i : Int)), (4, vi (l : Int))] [] (S0, m3) := by
          intro j2
          induction j2 with
          | zero =>
            intro l hl m3 g1 g2 g3
            have e5 : m3 9 5 = M 1 5 := g2.2.2.2.2.1
            refine q_L_groupByReads_36 hK _ _ _ _ m3 (br_t (by omega) ?_)
            rw [ew]
            refine h4 m3 g1 (fun l' n a b c d => ?_)
            rw [g3 l' n a b c d, if_pos (by omega)]
          | succ j2 ih2 =>
            intro l hl m3 g1 g2 g3
            have f4 := ih2 (l + 1) (by omega)
            have e5 : m3 9 5 = M 1 5 := g2.2.2.2.2.1
            have hz : ∃ z : Int, z = (l : Int) := ⟨_, rfl⟩
            obtain ⟨z, hz⟩ := hz
            have ez : ((l + 1 : Nat) : Int) = z + 1 := by omega
            rw [ez] at f4
            rw [← hz] at g3
            rw [← hz]
            have zb : 0 ≤ z ∧ z < M 1 5 := by omega
            clear hz ez hl ih2 h4 ih
            have ez1 : w32 (z + 1) = z + 1 := w32_s (by omega) (by omega)
            have rr := rdL_rng (M 4) (fiN M H cn (i : Int)) z
            have tr := T_reads (d + 1) g2 zb
            refine q_L_groupByReads_36 hK _ _ _ _ m3 (br_f (by omega) ⟨_, _, tr, ?_⟩)
            have gsz := fun n => gs z n
            generalize rdL (M 4) (fiN M H cn (i : Int)) z = rd at rr gsz
            have wi : w32 (w32 (z * 61) + rd) = 61 * z + rd := by
              rw [w32_s (z := z * 61) (by omega) (by omega), w32_s (by omega) (by omega)]
              omega
            have old := g3 z rd zb.1 zb.2 rr.1 (by omega)
            rw [if_neg (by omega)] at old
            have grr := gr z rd
            rw [wi, ez1, old, w32_s (z := gc M H cn ns z rd i + 1) (by omega) (by omega)]
            refine mIn_i (by omega) (by omega) (mIn_i (by omega) (by omega) (f4 _ (HoL_43 g1 (fun k a => mupd_ne _ _ _ a)) (T_eq g2 (fun k a b => mupd_ne _ _ _ (by omega)) (by rw [mupd_ne _ _ _ (by decide)]) (by rw [mupd_ne _ _ _ (by decide)])) (fun l' n a b c d => ?_)))
            rw [mupd_at]
            by_cases y : l' = z
            · rw [y, if_pos (by omega), gsz n, if_neg q]
              by_cases y2 : n = rd
              · rw [y2, fup_at, b2_t rfl]
              · rw [fup_ne _ _ (by omega), b2_f (fun w => y2 w.symm), Int.add_zero, g3 z n zb.1 zb.2 c d, if_neg (by omega)]
            · rw [fup_ne _ _ (by omega), g3 l' n a b c d]
              by_cases y2 : l' < z
              · rw [if_pos y2, if_pos (by omega)]
              · rw [if_neg y2, if_neg (by omega)]
        refine inner k 0 (by omega) m2 p3 p2 (fun l' n a b c d => ?_)
        rw [p4 43 (by omega), h2 l' n a b c d]
        show _ = if l' < 0 then gc M H cn ns l' n (i + 1) else gc M H cn ns l' n i
        rw [if_neg (by omega)]
  have f43 : HoL M (mfill m 43 ((305 : Nat) : Int) 0) H cn := HoL_43 hm (fun k a => mfill_ne _ _ _ a)
  refine ⟨_, _, L_fc (d + 2) f43.2.2.1 ok.1, loop (4 ^ cn) 0 (by omega) _ f43 (fun l n a b c d => ?_)⟩
  rw [mfill_at _ (by omega) (by omega)]
  rfl
