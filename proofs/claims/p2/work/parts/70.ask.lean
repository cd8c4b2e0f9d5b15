/-! PURE PROOFS 48: ask -/
theorem L_largest (d : Nat) {m : mMem} {g : Int → Int} {l : Int} (hl : 0 ≤ l ∧ l < 5) (hg : ∀ n : Int, 0 ≤ n → n < 61 → m 43 (61 * l + n) = g n) : mR3 (d + 1) 113 [vr 0, vi l] (S0, m) (some (vi (lgM g 61)), (S0, m)) := by
  refine ⟨⟨by decide, Nat.le_of_ble_eq_true rfl⟩, fun K hK => q_L_largestGroup_0 hK l m ?_⟩
  have loop : ∀ (j i : Nat), i + j = 61 → K 4 [(0, vr 0), (1, vi l), (2, vi (lgM g i)), (3, vi (i : Int))] [] (S0, m) := by
    intro j
    induction j with
    | zero =>
      intro i hi
      rw [show i = 61 by omega]
      exact q_L_largestGroup_4 hK _ _ _ m (br_t (by decide) (mret_i rfl rfl))
    | succ j ih =>
      intro i hi
      have h4 := ih (i + 1) (by omega)
      rw [lgM_s] at h4
      generalize lgM g i = s at h4
      have hz : ∃ z : Int, z = (i : Int) := ⟨_, rfl⟩
      obtain ⟨z, hz⟩ := hz
      have ez : ((i + 1 : Nat) : Int) = z + 1 := by omega
      rw [ez, ← hz] at h4
      rw [← hz]
      have zb : 0 ≤ z ∧ z < 61 := by omega
      clear hz ez hi ih
      have ez1 : w32 (z + 1) = z + 1 := w32_s (by omega) (by omega)
      have wi : w32 (w32 (l * 61) + z) = 61 * l + z := by
        rw [w32_s (z := l * 61) (by omega) (by omega), w32_s (by omega) (by omega)]
        omega
      refine q_L_largestGroup_4 hK _ _ _ m (br_f (by omega) ?_)
      rw [wi, ez1, hg z zb.1 zb.2]
      exact mIn_i (by omega) (by omega) h4
  exact loop 61 0 (by omega)
theorem HoM_62 {M m0 m m' : mMem} {H : Int → Int} {cn : Nat} (h : HoM M m0 m H cn) (e : ∀ k : Nat, k ≠ 62 → m' k = m k) : HoM M m0 m' H cn := by
  obtain ⟨h1, h2, h3, h4, h5, h6⟩ := h
  refine ⟨FrM_trans ⟨fun k _ _ _ _ a => e k a, ?_, ?_, ?_, ?_, fun i _ _ => ?_⟩ h1, fun i a b => ?_, ?_, fun i a b => ?_, ?_, ?_⟩
  · rw [e 53 (by decide)]
  · rw [e 53 (by decide)]
  · rw [e 53 (by decide)]
  · rw [e 53 (by decide)]
  · rw [e 54 (by decide)]
  · rw [e 54 (by decide), h2 i a b]
  · rw [e 53 (by decide), h3]
  · rw [e 61 (by decide), h4 i a b]
  · rw [e 53 (by decide), h5]
  · rw [e 60 (by decide), h6]
theorem M_worst (d : Nat) {M m0 m : mMem} {H : Int → Int} {cn ns : Nat} {l : Int} (hg : Pg M 1 0) (hc : Cht M 1) (hs : SeI M) (ok : HoOK M H cn ns) (hl : 0 ≤ l ∧ l < M 1 5) (hm : HoM M m0 m H cn) : mI3 (d + 4) 180 [vr 53, vi l] m (fun v m' => v = woM M H cn ns l (4 ^ cn) ∧ HoM M m0 m' H cn) := by
  have nb := fc_b cn (by have := ok.1; omega)
  refine mI3_i ⟨by decide, Nat.le_of_ble_eq_true rfl⟩ (fun K hK => q_M_worstOf_0 hK l m ?_)
  have l2 : ∀ (j i : Nat), i + j = 4 ^ cn → ∀ m' : mMem, HoM M m0 m' H cn → (∀ n : Int, 0 ≤ n → n < 61 → m' 62 n = gc M H cn ns l n i) → K 25 [(0, vr 53), (1, vi l), (2, vi (woM M H cn ns l i)), (3, vi (i : Int))] [] (S0, m') := by
    intro j
    induction j with
    | zero =>
      intro i hi m' h1 h2
      rw [show i = 4 ^ cn by omega]
      exact q_M_worstOf_25 hK _ _ _ m' ⟨_, _, M_fc (d + 2) h1.2.2.1 ok.1, br_t (Int.le_refl _) (rI_i ⟨rfl, h1⟩)⟩
    | succ j ih =>
      intro i hi m' h1 h2
      have h4 := ih (i + 1) (by omega)
      rw [woM_s] at h4
      have ew : w32 ((i : Int) + 1) = ((i + 1 : Nat) : Int) := by rw [w32_s (by omega) (by omega)]; omega
      have lt : ¬ ((4 ^ cn : Nat) : Int) ≤ (i : Int) := by omega
      have ib : (i : Int) ≤ 256 := by omega
      have gs := fun n => gc_s M H cn ns l n i
      have gr := fun n => gc_rng M H cn ns l n i
      refine q_M_worstOf_25 hK _ _ _ m' ⟨_, _, M_fc (d + 2) h1.2.2.1 ok.1, br_f lt (cI (M_fit2 d hg hc hs ok h1 (i : Int)) (fun v m2 p => ?_))⟩
      obtain ⟨p1, p2, p3, p4⟩ := p
      have b := ftN_01 M H cn ns (i : Int)
      rw [ew]
      rw [← p1] at b h4
      have gs : ∀ n, gc M H cn ns l n (i + 1) = if v = 0 then gc M H cn ns l n i else gc M H cn ns l n i + b2 (rdL (M 4) (fiN M H cn (i : Int)) l = n) := fun n => by
        rw [p1]
        exact gs n
      refine ⟨fun q => ?_, fun q => ⟨_, _, G_reads (d + 1) p2 (by omega) hc hl, ?_⟩⟩
      · rw [if_pos q] at h4
        refine h4 m2 p3 (fun n a b => ?_)
        rw [p4 62 (by decide), h2 n a b, gs n, if_pos q]
      · rw [if_neg q] at h4
        have rr := rdL_rng (M 4) (fiN M H cn (i : Int)) l
        generalize rdL (M 4) (fiN M H cn (i : Int)) l = r at rr gs h4
        have old : m2 62 r = gc M H cn ns l r i := by rw [p4 62 (by decide), h2 r rr.1 (by omega)]
        have grr := gr r
        have gnew : gc M H cn ns l r (i + 1) = gc M H cn ns l r i + 1 := by rw [gs r, if_neg q, b2_t rfl]
        have at62 : mupd m2 62 r (gc M H cn ns l r i + 1) 62 r = gc M H cn ns l r (i + 1) := by rw [mupd_at, fup_at, gnew]
        rw [old, w32_s (z := gc M H cn ns l r i + 1) (by omega) (by omega), at62]
        have nx := h4 (mupd m2 62 r (gc M H cn ns l r i + 1)) (HoM_62 p3 (fun k a => mupd_ne _ _ _ a)) (fun n a b => by
          rw [mupd_at]
          by_cases y : n = r
          · rw [y, fup_at, gnew]
          · rw [fup_ne _ _ y, p4 62 (by decide), h2 n a b, gs n, if_neg q, b2_f (fun w => y w.symm), Int.add_zero])
        refine mIn_i (by omega) (by omega) (mIn_i (by omega) (by omega) (mIn_i (by omega) (by omega) ⟨fun y => ?_, fun y => mIn_i (by omega) (by omega) ?_⟩))
        · rw [if_pos y] at nx
          exact nx
        · rw [if_neg y] at nx
          exact nx
  have l1 : ∀ (j i : Nat), i + j = 61 → ∀ m' : mMem, HoM M m0 m' H cn → (∀ n : Int, 0 ≤ n → n < (i : Int) → m' 62 n = 0) → K 4 [(0, vr 53), (1, vi l), (2, vi 0), (3, vi (i : Int))] [] (S0, m') := by
    intro j
    induction j with
    | zero =>
      intro i hi m' h1 h2
      rw [show i = 61 by omega] at h2 ⊢
      exact q_M_worstOf_4 hK _ _ _ m' (br_t (by decide) (l2 (4 ^ cn) 0 (by omega) m' h1 (fun n a b => h2 n a (by omega))))
    | succ j ih =>
      intro i hi m' h1 h2
      have h4 := ih (i + 1) (by omega)
      have hz : ∃ z : Int, z = (i : Int) := ⟨_, rfl⟩
      obtain ⟨z, hz⟩ := hz
      have ez : ((i + 1 : Nat) : Int) = z + 1 := by omega
      rw [ez] at h4
      rw [← hz] at h2
      rw [← hz]
      have zb : 0 ≤ z ∧ z < 61 := by omega
      clear hz ez hi ih
      have ez1 : w32 (z + 1) = z + 1 := w32_s (by omega) (by omega)
      refine q_M_worstOf_4 hK _ _ _ m' (br_f (by omega) ?_)
      rw [ez1]
      refine mIn_i (by omega) (by omega) (h4 _ (HoM_62 h1 (fun k a => mupd_ne _ _ _ a)) (fun n a b => ?_))
      rw [mupd_at]
      unfold fup
      split
      · rfl
      · exact h2 n a (by omega)
  exact l1 61 0 (by omega) m hm (fun n a b => absurd b (by omega))
