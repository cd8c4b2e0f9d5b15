/-! PURE PROOFS 64: read: the class -/
theorem faV_0 {M : mMem} {c : Nat} {a z : Int} (hl : M c 2 ≤ 40) (h : ¬ faV M c a z ≠ 0) : 0 ≤ M c 2 ∧ M c 1 = a ∧ 0 ≤ z ∧ z ≤ M c 2 - 3 := by
  unfold faV at h
  by_cases q : M c 2 < 0
  · rw [if_pos q] at h
    exact absurd h (by decide)
  · rw [if_neg q] at h
    by_cases q2 : M c 1 = a
    · rw [if_pos q2] at h
      by_cases q3 : 0 ≤ z ∧ z ≤ M c 2 - 3
      · exact ⟨by omega, q2, q3⟩
      · rw [if_neg q3] at h
        exact absurd h (by decide)
    · rw [if_neg q2] at h
      exact absurd h (by decide)
def ReL (M m : mMem) (R : Int → Int) (f : Int) (o : Int × Int × Nat × Int) : Prop := (o.2.2.2 = 1 ∧ FrL m M) ∨ (o.2.2.2 = 0 ∧ ∃ m2, TrC m2 M (rdG M R f o.2.2.1).1 (rdG M R f o.2.2.1).2 ∧ FrL m2 M ∧ m = mupd (cpyM m2 1 9) 0 16 o.2.1)
theorem sh_len {M : mMem} {kk : Nat} (h : ShI M kk) : -1 ≤ M (45 + 2 * kk) 2 ∧ M (45 + 2 * kk) 2 ≤ 40 := by
  rcases h with ⟨a, _⟩ | ⟨a, _⟩
  · omega
  · omega
theorem read_L {M : mMem} (hc : Cht M 1) {k a f n : Int} {kk nn : Nat} (sh : ShI M kk) (hk : k = kk) (hkk : kk < 4) (ha : 0 ≤ a ∧ a ≤ 2) (hn : n = nn) (hnn : nn ≤ 13) (hf : inR f) : mI3 10 84 [vr 0, vi k, vi a, vi f, vi n] M (fun v m => v = (rdO M (M (46 + 2 * kk)) (45 + 2 * kk) a f nn 0).1 ∧ ReL M m (M (46 + 2 * kk)) f (rdO M (M (46 + 2 * kk)) (45 + 2 * kk) a f nn 0)) := by
  have tn : k.toNat = kk := by omega
  have hcc : 45 + 2 * kk = 45 ∨ 45 + 2 * kk = 47 ∨ 45 + 2 * kk = 49 ∨ 45 + 2 * kk = 51 := by omega
  have sl := sh_len sh
  have f1 : -2147483648 ≤ f := hf.1
  have f2 : f < 2147483648 := hf.2
  generalize ho : rdO M (M (46 + 2 * kk)) (45 + 2 * kk) a f nn 0 = o
  refine mI3_i ⟨by decide, Nat.le_of_ble_eq_true rfl⟩ (fun K hK => q_L_read_0 hK k a f n M ⟨_, _, R_isSheet 8 M k, br_f (fun q => b2_0.mp q (by omega)) ⟨_, _, R_isLane 8 M a, br_f (fun q => b2_0.mp q ha) (br_f (by omega) (br_t (by omega) (mIn_i (by omega) (by omega) ⟨45 + 2 * kk, ?_, ?_⟩)))⟩⟩)
  · rw [tn]
    exact sh_at kk (by omega)
  · have loop : ∀ (j i : Nat), i + j = nn → (i = 0 ∨ (0 ≤ f + 3 * ((i : Int) - 1) ∧ f + 3 * ((i : Int) - 1) ≤ 37)) → rdO M (M (46 + 2 * kk)) (45 + 2 * kk) a f j i = o → ∀ m', TrC m' M (rdG M (M (46 + 2 * kk)) f i).1 (rdG M (M (46 + 2 * kk)) f i).2 → FrL m' M → K 56 [(0, vr 0), (2, vi a), (3, vi f), (4, vi n), (5, vr (45 + 2 * kk)), (6, vi (i : Int)), (7, vi 0), (8, vi (i : Int))] [] (S0, m') := by
      intro j
      induction j with
      | zero =>
        intro i hi hr he m' h1 h2
        have e : o = ((i : Int), 0, i, 0) := he.symm
        refine q_L_read_56 hK _ _ _ _ _ _ _ m' hcc (br_t (by omega) (q_L_read_118 hK _ _ m' ⟨_, R_copyFrom 8 m' 1 9 (by unfold cpP; omega), rI_i ⟨?_, ?_⟩⟩))
        · rw [e]
        · rw [e]
          exact Or.inr ⟨rfl, m', h1, h2, rfl⟩
      | succ j ih =>
        intro i hi hr he m' h1 h2
        have h4 := ih (i + 1) (by omega)
        rw [rdO_s] at he
        rw [rdG_s] at h4
        generalize hg : rdG M (M (46 + 2 * kk)) f i = g at h1 he h4
        have hz : ∃ z : Int, z = (i : Int) := ⟨_, rfl⟩
        obtain ⟨z, hz⟩ := hz
        have ez : ((i + 1 : Nat) : Int) = z + 1 := by omega
        rw [ez, ← hz] at h4
        rw [← hz] at hr he
        rw [← hz]
        have zb : 0 ≤ z ∧ z < n ∧ z ≤ 13 := by omega
        have hr : z = 0 ∨ (0 ≤ f + 3 * (z - 1) ∧ f + 3 * (z - 1) ≤ 37) := by
          rcases hr with hr | hr
          · exact Or.inl (by omega)
          · exact Or.inr hr
        have zi : (i + 1 = 0) = False := by simp
        clear hz ez hi ih
        have w1 : w32 (z + 1) = z + 1 := w32_s (by omega) (by omega)
        have w2 : w32 (f + w32 (3 * z)) = f + 3 * z := by rw [w32_s (z := 3 * z) (by omega) (by omega), w32_s (by omega) (by omega)]
        have m45 : m' (45 + 2 * kk) = M (45 + 2 * kk) := h2.1 _ (by omega)
        have m46 : m' (45 + 2 * kk + 1) = M (46 + 2 * kk) := by rw [show 45 + 2 * kk + 1 = 46 + 2 * kk by omega]; exact h2.1 _ (by omega)
        have lt : ¬ n ≤ z := by omega
        rw [show z + 1 - 1 = z by omega] at h4
        rw [← w1] at h4
        have fa := R_faultAsOf 7 m' (45 + 2 * kk) hcc a (f + 3 * z) (by rw [m45]; exact sl)
        have fe : faV m' (45 + 2 * kk) a (f + 3 * z) = faV M (45 + 2 * kk) a (f + 3 * z) := by
          unfold faV
          rw [m45]
        rw [fe] at fa
        refine q_L_read_56 hK _ _ _ _ _ _ _ m' hcc (br_f lt (br_f (by decide) ?_))
        rw [w2]
        refine ⟨_, _, fa, fun q => ?_, fun q => ?_⟩
        · rw [if_pos q] at he
          have fin : K 118 [(0, vr 0), (6, vi z), (7, vi (faV M (45 + 2 * kk) a (f + 3 * z)))] [] (S0, m') := by
            refine q_L_read_118 hK _ _ m' ⟨_, R_copyFrom 8 m' 1 9 (by unfold cpP; omega), rI_i ⟨?_, ?_⟩⟩
            · rw [← he]
            · rw [← he]
              refine Or.inr ⟨rfl, m', ?_, h2, rfl⟩
              show TrC m' M (rdG M (M (46 + 2 * kk)) f i).1 (rdG M (M (46 + 2 * kk)) f i).2
              rw [hg]
              exact h1
          exact q_L_read_56 hK _ _ _ _ _ _ _ m' hcc ⟨fun _ => fin, fun _ => br_t q fin⟩
        · have f0 := faV_0 sl.2 q
          rw [if_neg q] at he
          have wf := L_wf 5 (c := 45 + 2 * kk) hcc (z := f + 3 * z) (by omega) h1
          rw [m46] at wf
          have qz : faV M (45 + 2 * kk) a (f + 3 * z) = 0 := Decidable.not_not.mp q
          rw [qz]
          refine ⟨_, _, wf, fun q2 => ?_, fun q2 => ?_⟩
          · rw [if_neg q2] at he
            rw [if_neg q2]
            have ok := okI_1 q2
            have nx := h4 (Or.inr ⟨f0.2.2.1, by omega⟩) he (takeM m' 9 (6 * M (46 + 2 * kk) (f + 3 * z) + M (46 + 2 * kk) (f + 3 * z + 1)) (M (46 + 2 * kk) (f + 3 * z + 2))) (T_take h1 (by omega) ok.2.1 ok.2.2.2) (FrL_row h2 (fun k z _ _ _ _ _ => takeM_ne m' 9 _ _ (by omega) (by omega) (by omega) (by omega)))
            exact nx
          · have q2 := Decidable.not_not.mp q2
            rw [if_pos q2] at he
            rw [if_pos q2, w32_s (z := -20 - z) (by omega) (by omega)]
            refine rI_i ⟨?_, ?_⟩
            · rw [← he]
            · rw [← he]
              exact Or.inl ⟨rfl, h2⟩
    have t0 := T_copy (m := M) hc (fun _ _ _ => rfl)
    exact q_L_read_34 hK a f n _ M hcc ⟨_, R_copyFrom 8 M 9 1 (by unfold cpP; omega), loop nn 0 (by omega) (Or.inl rfl) ho _ t0 (FrL_row (FrL_refl M) (fun k z _ _ _ _ _ => cpy_ne M (by omega)))⟩
