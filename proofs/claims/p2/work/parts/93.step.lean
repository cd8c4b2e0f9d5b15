/-! PURE PROOFS 68: tokens, the other -/
def MFr (B' B : mMem) : Prop := (∀ k : Nat, k ≠ 53 → B' k = B k) ∧ ∀ x : Int, (x < 7 ∨ 12 < x) → B' 53 x = B 53 x
theorem MFr_refl (B : mMem) : MFr B B := ⟨fun _ _ => rfl, fun _ _ => rfl⟩
theorem MFr_trans {A B C : mMem} (h : MFr A B) (g : MFr B C) : MFr A C := ⟨fun k q => (h.1 k q).trans (g.1 k q), fun x q => (h.2 x q).trans (g.2 x q)⟩
theorem MFr_u {B' B : mMem} (h : MFr B' B) {i v : Int} (hi : 7 ≤ i ∧ i ≤ 12) : MFr (mupd B' 53 i v) B :=
  MFr_trans ⟨fun k q => mupd_ne _ _ _ q, fun x q => by rw [mupd_at, fup_ne _ _ (by omega)]⟩ h
theorem M_fails (d : Nat) (B : mMem) (x : Int) : mN3 (d + 1) 119 [vr 53, vi x] B (fun B' => MFr B' B ∧ B' 53 9 = B 53 9 ∧ B' 53 10 = B 53 10 ∧ B' 53 11 = B 53 11 ∧ B' 53 12 = B 53 12 ∧ ((B 53 7 ≠ 0 ∧ B' 53 7 = B 53 7 ∧ B' 53 8 = B 53 8) ∨ (B 53 7 = 0 ∧ B' 53 7 = x ∧ B' 53 8 = B 53 10))) := by
  refine mN3_i ⟨by decide, Nat.le_of_ble_eq_true rfl⟩ (fun K hK => q_M_fails_0 hK x B ⟨fun q => rN_i ⟨MFr_refl B, rfl, rfl, rfl, rfl, Or.inl ⟨q, rfl, rfl⟩⟩, fun q => rN_i ⟨MFr_u (MFr_u (MFr_refl B) (by omega)) (by omega), ?_, ?_, ?_, ?_, Or.inr ⟨Decidable.not_not.mp q, ?_, ?_⟩⟩⟩)
  · rw [mupd_at, fup_ne _ _ (by decide), mupd_at, fup_ne _ _ (by decide)]
  · rw [mupd_at, fup_ne _ _ (by decide), mupd_at, fup_ne _ _ (by decide)]
  · rw [mupd_at, fup_ne _ _ (by decide), mupd_at, fup_ne _ _ (by decide)]
  · rw [mupd_at, fup_ne _ _ (by decide), mupd_at, fup_ne _ _ (by decide)]
  · rw [mupd_at, fup_ne _ _ (by decide), mupd_at, fup_at]
  · rw [mupd_at, fup_at, mupd_at, fup_ne _ _ (by decide)]
def TkM (B B' : mMem) (b : Int → Int) (L n : Int) : Prop := MFr B' B ∧ B' 53 10 = tS b L n ∧ ((tB b L n = 0 ∧ B' 53 7 = 0 ∧ B' 53 8 = B 53 8 ∧ B' 53 11 = tT b L n ∧ B' 53 9 = tE b L n ∧ (tT b L n = 2 → B' 53 12 = tV b L n)) ∨ (tB b L n ≠ 0 ∧ B' 53 7 = 1 ∧ B' 53 8 = tS b L n))
theorem M_step (d : Nat) {B : mMem} {b : Int → Int} {L n : Int} (hn : 0 ≤ n ∧ n ≤ L) (hL : L ≤ 160) (h5 : B 53 5 = L) (h56 : ∀ i : Int, 0 ≤ i → i < L → B 56 i = b i) (hb : ∀ i : Int, 0 ≤ i → i < L → 0 ≤ b i ∧ b i ≤ 127) (h7 : B 53 7 = 0) (h9 : B 53 9 = n) : mN3 (d + 2) 121 [vr 53] B (fun B' => TkM B B' b L n) := by
  refine mN3_i ⟨by decide, Nat.le_of_ble_eq_true rfl⟩ (fun K hK => q_M_step_0 hK B (br_t (by omega) ?_))
  have sr := rnF_rng b L p1 160 n hn.2
  have es : tS b L n = rnF b L p1 160 n := rfl
  unfold TkM at hK
  have eE : tE b L n = if tS b L n < L then (if p2 (b (tS b L n)) ≠ 0 then rnF b L p2 160 (tS b L n) else if p3 (b (tS b L n)) ≠ 0 then rnF b L p3 160 (tS b L n) else tS b L n + 1) else tS b L n := rfl
  have eT : tT b L n = if tS b L n < L then (if p2 (b (tS b L n)) ≠ 0 then 1 else if p3 (b (tS b L n)) ≠ 0 then 2 else 3) else 0 := rfl
  have eB : tB b L n = if tS b L n < L then (if p2 (b (tS b L n)) ≠ 0 then 0 else if p3 (b (tS b L n)) ≠ 0 then b2 (2 < rnF b L p3 160 (tS b L n) - tS b L n) else b2 (b (tS b L n) ≠ 59)) else 0 := rfl
  have eV : tV b L n = if tE b L n - tS b L n = 1 then b (tS b L n) - 48 else 10 * (b (tS b L n) - 48) + b (tS b L n + 1) - 48 := rfl
  rw [← es] at sr
  generalize hs : tS b L n = s at *
  generalize tT b L n = T at *
  generalize tB b L n = W at *
  generalize tV b L n = V at *
  generalize tE b L n = E at *
  have byt : ∀ (m : mMem) (i : Int), MFr m B → 0 ≤ i → mR3 (d + 1) 118 [vr 53, vi i] (S0, m) (some (vi (if L ≤ i then -4 else b i)), (S0, m)) := by
    intro m i f i0
    have m5 : m 53 5 = L := by rw [f.2 5 (by omega), h5]
    have g := R_byteAt d m i i0 (by omega)
    rw [m5] at g
    by_cases q : L ≤ i
    · rw [if_pos q] at g ⊢
      exact g
    · rw [if_neg q] at g ⊢
      have e : m 56 i = b i := by rw [f.1 56 (by decide), h56 i i0 (by omega)]
      rw [e] at g
      exact g
  have tail : ∀ m : mMem, MFr m B → m 53 9 = s → m 53 10 = s → m 53 7 = 0 → m 53 8 = B 53 8 → m 53 12 = 0 → s < L → p2 (b s) = 0 → p3 (b s) ≠ 0 → K 140 [(0, vr 53)] [] (S0, m) := by
    intro m f e9 e10 e7 e8 e12 q z1 z2
    rw [if_pos q, if_neg (fun w => w z1), if_pos z2] at eE eT eB
    have er := rnF_rng b L p3 160 s (by omega)
    have fin : ∀ m2 : mMem, MFr m2 B → m2 53 9 = E → m2 53 10 = s → m2 53 7 = 0 → m2 53 8 = B 53 8 → (E - s ≤ 2 → m2 53 12 = V) → ((w32 ((mupd m2 53 11 2 53 9) - (mupd m2 53 11 2 53 10)) ≤ 2 → rN (fun B' => MFr B' B ∧ B' 53 10 = s ∧ ((W = 0 ∧ B' 53 7 = 0 ∧ B' 53 8 = B 53 8 ∧ B' 53 11 = T ∧ B' 53 9 = E ∧ (T = 2 → B' 53 12 = V)) ∨ (W ≠ 0 ∧ B' 53 7 = 1 ∧ B' 53 8 = s))) none (S0, mupd m2 53 11 2)) ∧ (¬ (w32 ((mupd m2 53 11 2 53 9) - (mupd m2 53 11 2 53 10)) ≤ 2) → ∃ m5, mR3 (d + 1) 119 [vr 53, vi 1] (S0, mupd m2 53 11 2) (none, (S0, m5)) ∧ rN (fun B' => MFr B' B ∧ B' 53 10 = s ∧ ((W = 0 ∧ B' 53 7 = 0 ∧ B' 53 8 = B 53 8 ∧ B' 53 11 = T ∧ B' 53 9 = E ∧ (T = 2 → B' 53 12 = V)) ∨ (W ≠ 0 ∧ B' 53 7 = 1 ∧ B' 53 8 = s))) none (S0, m5))) := by
      intro m2 a1 a9 a10 a7 a8 a12
      have u : ∀ x : Int, x ≠ 11 → mupd m2 53 11 2 53 x = m2 53 x := fun x hx => by rw [mupd_at, fup_ne _ _ hx]
      have u11 : mupd m2 53 11 2 53 11 = 2 := by rw [mupd_at, fup_at]
      have uf : MFr (mupd m2 53 11 2) B := MFr_u a1 (by omega)
      rw [u 9 (by decide), u 10 (by decide), a9, a10, w32_s (z := E - s) (by omega) (by omega)]
      refine ⟨fun y => rN_i ⟨uf, by rw [u 10 (by decide), a10], Or.inl ⟨?_, by rw [u 7 (by decide), a7], by rw [u 8 (by decide), a8], by rw [u11, eT], by rw [u 9 (by decide), a9], fun _ => by rw [u 12 (by decide), a12 y]⟩⟩, fun y => cN (M_fails d _ 1) (fun m3 p => rN_i ⟨MFr_trans p.1 uf, by rw [p.2.2.1, u 10 (by decide), a10], Or.inr ⟨?_, ?_⟩⟩)⟩
      · rw [eB, b2_f (by omega)]
      · rw [eB, b2_t (by omega)]
        decide
      · rcases p.2.2.2.2.2 with ⟨w, _⟩ | ⟨_, w1, w2⟩
        · rw [u 7 (by decide)] at w
          exact absurd a7 w
        · exact ⟨w1, by rw [w2, u 10 (by decide), a10]⟩
    have l140 : ∀ (j : Nat) (i : Int), s ≤ i → i ≤ L → L ≤ i + j → rnF b L p3 j i = E → ∀ (m2 : mMem), MFr m2 B → m2 53 9 = i → m2 53 10 = s → m2 53 7 = 0 → m2 53 8 = B 53 8 → ((i = s ∧ m2 53 12 = 0) ∨ (i = s + 1 ∧ m2 53 12 = b s - 48) ∨ (i = s + 2 ∧ m2 53 12 = 10 * (b s - 48) + b (s + 1) - 48) ∨ s + 2 < i) → K 140 [(0, vr 53)] [] (S0, m2) := by
      intro j
      induction j with
      | zero =>
        intro i i0 i1 i2 ie m2 a1 a9 a10 a7 a8 a12
        have ie : i = E := ie
        have g := byt m2 i a1 (by omega)
        rw [if_pos (by omega)] at g
        refine q_M_step_140 hK m2 ?_
        rw [a9]
        refine ⟨_, _, g, _, _, R_in d m2 _ _ _, br_t (b2_f (by omega)) (fin m2 a1 (by omega) a10 a7 a8 (fun y => ?_))⟩
        rw [eV]
        rcases a12 with ⟨w1, w2⟩ | ⟨w1, w2⟩ | ⟨w1, w2⟩ | w1
        · exact absurd q (by omega)
        · rw [if_pos (by omega)]
          exact w2
        · rw [if_neg (by omega)]
          exact w2
        · exact absurd y (by omega)
      | succ j ih =>
        intro i i0 i1 i2 ie m2 a1 a9 a10 a7 a8 a12
        have g := byt m2 i a1 (by omega)
        rw [rnF_s] at ie
        have fn : ¬ (i < L ∧ p3 (b i) ≠ 0) → (E = i ∧ (E - s ≤ 2 → m2 53 12 = V)) := fun w => by
          rw [if_neg w] at ie
          refine ⟨by omega, fun y => ?_⟩
          rw [eV]
          rcases a12 with ⟨w1, w2⟩ | ⟨w1, w2⟩ | ⟨w1, w2⟩ | w1
          · exact absurd ⟨by omega, by rw [w1]; exact z2⟩ w
          · rw [if_pos (by omega)]
            exact w2
          · rw [if_neg (by omega)]
            exact w2
          · exact absurd y (by omega)
        refine q_M_step_140 hK m2 ?_
        rw [a9]
        by_cases il : L ≤ i
        · rw [if_pos il] at g
          have w := fn (by omega)
          exact ⟨_, _, g, _, _, R_in d m2 _ _ _, br_t (b2_f (by omega)) (fin m2 a1 (by omega) a10 a7 a8 w.2)⟩
        · rw [if_neg il] at g
          have bi := hb i (by omega) (by omega)
          refine ⟨_, _, g, _, _, R_in d m2 _ _ _, fun y => ?_, fun y => ?_⟩
          · have y : p3 (b i) = 0 := b2_f (b2_0.mp y)
            have w := fn (fun u => u.2 y)
            exact fin m2 a1 (by omega) a10 a7 a8 w.2
          · have y0 := b2_n0.mp y
            have y : p3 (b i) ≠ 0 := by
              unfold p3
              rw [b2_t y0]
              decide
            rw [if_pos ⟨by omega, y⟩] at ie
            rw [a9, a10, w32_s (z := i - s) (by omega) (by omega)]
            refine ⟨fun y2 => ?_, fun y2 => ⟨_, _, g, ?_⟩⟩
            · have u9 : mupd m2 53 12 (m2 53 12) 53 9 = i := by rw [mupd_at, fup_ne _ _ (by decide), a9]
              rw [u9, w32_s (z := i + 1) (by omega) (by omega)]
              refine ih (i + 1) (by omega) (by omega) (by omega) ie _ (MFr_u (MFr_u a1 (by omega)) (by omega)) ?_ ?_ ?_ ?_ ?_
              · rw [mupd_at, fup_at]
              · rw [mupd_at, fup_ne _ _ (by decide), mupd_at, fup_ne _ _ (by decide), a10]
              · rw [mupd_at, fup_ne _ _ (by decide), mupd_at, fup_ne _ _ (by decide), a7]
              · rw [mupd_at, fup_ne _ _ (by decide), mupd_at, fup_ne _ _ (by decide), a8]
              · exact Or.inr (Or.inr (Or.inr (by omega)))
            · have u9 : ∀ v, mupd m2 53 12 v 53 9 = i := fun v => by rw [mupd_at, fup_ne _ _ (by decide), a9]
              rw [u9, w32_s (z := i + 1) (by omega) (by omega)]
              refine ih (i + 1) (by omega) (by omega) (by omega) ie _ (MFr_u (MFr_u a1 (by omega)) (by omega)) ?_ ?_ ?_ ?_ ?_
              · rw [mupd_at, fup_at]
              · rw [mupd_at, fup_ne _ _ (by decide), mupd_at, fup_ne _ _ (by decide), a10]
              · rw [mupd_at, fup_ne _ _ (by decide), mupd_at, fup_ne _ _ (by decide), a7]
              · rw [mupd_at, fup_ne _ _ (by decide), mupd_at, fup_ne _ _ (by decide), a8]
              · rw [mupd_at, fup_ne _ _ (by decide), mupd_at, fup_at]
                rcases a12 with ⟨w1, v2⟩ | ⟨w1, v2⟩ | ⟨w1, v2⟩ | w1
                · refine Or.inr (Or.inl ⟨by omega, ?_⟩)
                  rw [v2, w1]
                  rw [w1] at bi
                  rw [w32_s (z := 10 * 0) (by decide) (by decide), w32_s (z := 10 * 0 + b s) (by omega) (by omega), w32_s (by omega) (by omega)]
                  omega
                · refine Or.inr (Or.inr (Or.inl ⟨by omega, ?_⟩))
                  have bs3 := b2_n0.mp z2
                  rw [v2, w1]
                  rw [w1] at bi
                  rw [w32_s (z := 10 * (b s - 48)) (by omega) (by omega), w32_s (z := 10 * (b s - 48) + b (s + 1)) (by omega) (by omega), w32_s (by omega) (by omega)]
                · exact absurd y2 (by omega)
                · exact absurd y2 (by omega)
    exact l140 160 s (by omega) (by omega) (by omega) eE.symm m f e9 e10 e7 e8 (Or.inl ⟨rfl, e12⟩)
  have name : ∀ m : mMem, MFr m B → m 53 9 = s → m 53 10 = s → m 53 7 = 0 → m 53 8 = B 53 8 → s < L → p2 (b s) ≠ 0 → K 84 [(0, vr 53)] [] (S0, m) := by
    intro m f e9 e10 e7 e8 q z1
    rw [if_pos q, if_pos z1] at eE eT eB
    have er := rnF_rng b L p2 160 s (by omega)
    have fin : ∀ m2 : mMem, MFr m2 B → m2 53 9 = E → m2 53 10 = s → m2 53 7 = 0 → m2 53 8 = B 53 8 → rN (fun B' => MFr B' B ∧ B' 53 10 = s ∧ ((W = 0 ∧ B' 53 7 = 0 ∧ B' 53 8 = B 53 8 ∧ B' 53 11 = T ∧ B' 53 9 = E ∧ (T = 2 → B' 53 12 = V)) ∨ (W ≠ 0 ∧ B' 53 7 = 1 ∧ B' 53 8 = s))) none (S0, mupd m2 53 11 1) := by
      intro m2 a1 a9 a10 a7 a8
      have u : ∀ x : Int, x ≠ 11 → mupd m2 53 11 1 53 x = m2 53 x := fun x hx => by rw [mupd_at, fup_ne _ _ hx]
      exact rN_i ⟨MFr_u a1 (by omega), by rw [u 10 (by decide), a10], Or.inl ⟨eB, by rw [u 7 (by decide), a7], by rw [u 8 (by decide), a8], by rw [mupd_at, fup_at, eT], by rw [u 9 (by decide), a9], fun w => absurd w (by omega)⟩⟩
    have l84 : ∀ (j : Nat) (i : Int), s ≤ i → i ≤ L → L ≤ i + j → rnF b L p2 j i = E → ∀ (m2 : mMem), MFr m2 B → m2 53 9 = i → m2 53 10 = s → m2 53 7 = 0 → m2 53 8 = B 53 8 → K 84 [(0, vr 53)] [] (S0, m2) := by
      intro j
      induction j with
      | zero =>
        intro i i0 i1 i2 ie m2 a1 a9 a10 a7 a8
        have ie : i = E := ie
        have g := byt m2 i a1 (by omega)
        rw [if_pos (by omega)] at g
        refine q_M_step_84 hK m2 ?_
        rw [a9]
        exact ⟨_, _, g, _, _, R_in d m2 _ _ _, br_t (b2_f (by omega)) (fin m2 a1 (by omega) a10 a7 a8)⟩
      | succ j ih =>
        intro i i0 i1 i2 ie m2 a1 a9 a10 a7 a8
        have g := byt m2 i a1 (by omega)
        rw [rnF_s] at ie
        refine q_M_step_84 hK m2 ?_
        rw [a9]
        by_cases il : L ≤ i
        · rw [if_pos il] at g
          rw [if_neg (by omega)] at ie
          exact ⟨_, _, g, _, _, R_in d m2 _ _ _, br_t (b2_f (by omega)) (fin m2 a1 (by omega) a10 a7 a8)⟩
        · rw [if_neg il] at g
          refine ⟨_, _, g, _, _, R_in d m2 _ _ _, fun y => ?_, fun y => ?_⟩
          · have y : p2 (b i) = 0 := b2_f (b2_0.mp y)
            rw [if_neg (fun u => u.2 y)] at ie
            exact fin m2 a1 (by omega) a10 a7 a8
          · have y : p2 (b i) ≠ 0 := by
              unfold p2
              rw [b2_t (b2_n0.mp y)]
              decide
            rw [if_pos ⟨by omega, y⟩] at ie
            rw [a9, w32_s (z := i + 1) (by omega) (by omega)]
            refine ih (i + 1) (by omega) (by omega) (by omega) ie _ (MFr_u a1 (by omega)) ?_ ?_ ?_ ?_
            · rw [mupd_at, fup_at]
            · rw [mupd_at, fup_ne _ _ (by decide), a10]
            · rw [mupd_at, fup_ne _ _ (by decide), a7]
            · rw [mupd_at, fup_ne _ _ (by decide), a8]
    exact l84 160 s (by omega) (by omega) (by omega) eE.symm m f e9 e10 e7 e8
  have found : ∀ m : mMem, MFr m B → m 53 9 = s → m 53 7 = 0 → m 53 8 = B 53 8 → ¬ (s < L ∧ p1 (b s) ≠ 0) → K 8 [(0, vr 53)] [] (S0, m) := by
    intro m f e9 e7 e8 ns
    have g := byt m s f (by omega)
    refine q_M_step_8 hK m ?_
    rw [e9]
    have c32 : (if L ≤ s then -4 else b s) ≠ 32 := by
      by_cases q : L ≤ s
      · rw [if_pos q]
        decide
      · rw [if_neg q]
        intro w
        exact ns ⟨by omega, by unfold p1; rw [b2_t w]; decide⟩
    refine ⟨_, _, g, br_t c32 ?_⟩
    rw [e9]
    have v9 : mupd m 53 10 s 53 9 = s := by rw [mupd_at, fup_ne _ _ (by decide), e9]
    have v10 : mupd m 53 10 s 53 10 = s := by rw [mupd_at, fup_at]
    have v7 : mupd m 53 10 s 53 7 = 0 := by rw [mupd_at, fup_ne _ _ (by decide), e7]
    have v8 : mupd m 53 10 s 53 8 = B 53 8 := by rw [mupd_at, fup_ne _ _ (by decide), e8]
    have vf : MFr (mupd m 53 10 s) B := MFr_u f (by omega)
    rw [v9]
    generalize mupd m 53 10 s = m1 at v9 v10 v7 v8 vf
    have g1 := byt m1 s vf (by omega)
    have u : ∀ x : Int, x ≠ 12 → mupd m1 53 12 0 53 x = m1 53 x := fun x hx => by rw [mupd_at, fup_ne _ _ hx]
    have u12 : mupd m1 53 12 0 53 12 = 0 := by rw [mupd_at, fup_at]
    have uf : MFr (mupd m1 53 12 0) B := MFr_u vf (by omega)
    by_cases q : L ≤ s
    · rw [if_pos q] at g1
      rw [if_neg (by omega)] at eE eT eB
      refine ⟨_, _, g1, br_f (fun w => w rfl) (rN_i ⟨MFr_u uf (by omega), ?_, Or.inl ⟨eB, ?_, ?_, ?_, ?_, fun w => absurd w (by omega)⟩⟩)⟩
      · rw [mupd_at, fup_ne _ _ (by decide), u 10 (by decide), v10]
      · rw [mupd_at, fup_ne _ _ (by decide), u 7 (by decide), v7]
      · rw [mupd_at, fup_ne _ _ (by decide), u 8 (by decide), v8]
      · rw [mupd_at, fup_at, eT]
      · rw [mupd_at, fup_ne _ _ (by decide), u 9 (by decide), v9, eE]
    · rw [if_neg q] at g1
      have bs := hb s (by omega) (by omega)
      refine ⟨_, _, g1, br_t (by omega) ⟨_, _, R_in d _ _ _ _, fun y => ⟨_, _, R_in d _ _ _ _, fun y2 => ?_, fun y2 => ?_⟩, fun y => ?_⟩⟩
      · have y : p2 (b s) = 0 := b2_f (b2_0.mp y)
        have y2 : p3 (b s) = 0 := b2_f (b2_0.mp y2)
        rw [if_pos (by omega), if_neg (fun w => w y), if_neg (fun w => w y2)] at eE eT eB
        have t9 : mupd (mupd m1 53 12 0) 53 11 3 53 9 = s := by rw [mupd_at, fup_ne _ _ (by decide), u 9 (by decide), v9]
        rw [t9, w32_s (z := s + 1) (by omega) (by omega)]
        have w : ∀ x : Int, x ≠ 9 → x ≠ 11 → x ≠ 12 → mupd (mupd (mupd m1 53 12 0) 53 11 3) 53 9 (s + 1) 53 x = m1 53 x := fun x h9 h11 h12 => by rw [mupd_at, fup_ne _ _ h9, mupd_at, fup_ne _ _ h11, u x h12]
        have w9 : mupd (mupd (mupd m1 53 12 0) 53 11 3) 53 9 (s + 1) 53 9 = s + 1 := by rw [mupd_at, fup_at]
        have w11 : mupd (mupd (mupd m1 53 12 0) 53 11 3) 53 9 (s + 1) 53 11 = 3 := by rw [mupd_at, fup_ne _ _ (by decide), mupd_at, fup_at]
        have wf : MFr (mupd (mupd (mupd m1 53 12 0) 53 11 3) 53 9 (s + 1)) B := MFr_u (MFr_u uf (by omega)) (by omega)
        refine ⟨fun y3 => rN_i ⟨wf, by rw [w 10 (by decide) (by decide) (by decide), v10], Or.inl ⟨?_, by rw [w 7 (by decide) (by decide) (by decide), v7], by rw [w 8 (by decide) (by decide) (by decide), v8], by rw [w11, eT], by rw [w9, eE], fun z => absurd z (by omega)⟩⟩, fun y3 => cN (M_fails d _ 1) (fun m3 p => rN_i ⟨MFr_trans p.1 wf, by rw [p.2.2.1, w 10 (by decide) (by decide) (by decide), v10], Or.inr ⟨?_, ?_⟩⟩)⟩
        · rw [eB, b2_f (fun z => z y3)]
        · rw [eB, b2_t y3]
          decide
        · rcases p.2.2.2.2.2 with ⟨z, _⟩ | ⟨_, z1, z2⟩
          · rw [w 7 (by decide) (by decide) (by decide)] at z
            exact absurd v7 z
          · exact ⟨z1, by rw [z2, w 10 (by decide) (by decide) (by decide), v10]⟩
      · have y : p2 (b s) = 0 := b2_f (b2_0.mp y)
        have y2 : p3 (b s) ≠ 0 := by
          unfold p3
          rw [b2_t (b2_n0.mp y2)]
          decide
        exact tail _ uf (by rw [u 9 (by decide), v9]) (by rw [u 10 (by decide), v10]) (by rw [u 7 (by decide), v7]) (by rw [u 8 (by decide), v8]) u12 (by omega) y y2
      · have y : p2 (b s) ≠ 0 := by
          unfold p2
          rw [b2_t (b2_n0.mp y)]
          decide
        exact name _ uf (by rw [u 9 (by decide), v9]) (by rw [u 10 (by decide), v10]) (by rw [u 7 (by decide), v7]) (by rw [u 8 (by decide), v8]) (by omega) y
  have l8 : ∀ (j : Nat) (i : Int), n ≤ i → i ≤ L → L ≤ i + j → rnF b L p1 j i = s → ∀ (m2 : mMem), MFr m2 B → m2 53 9 = i → m2 53 7 = 0 → m2 53 8 = B 53 8 → K 8 [(0, vr 53)] [] (S0, m2) := by
    intro j
    induction j with
    | zero =>
      intro i i0 i1 i2 ie m2 a1 a9 a7 a8
      have ie : i = s := ie
      exact found m2 a1 (by omega) a7 a8 (by omega)
    | succ j ih =>
      intro i i0 i1 i2 ie m2 a1 a9 a7 a8
      rw [rnF_s] at ie
      by_cases w : i < L ∧ p1 (b i) ≠ 0
      · rw [if_pos w] at ie
        have g := byt m2 i a1 (by omega)
        rw [if_neg (by omega)] at g
        have w2 := b2_n0.mp w.2
        refine q_M_step_8 hK m2 ?_
        rw [a9]
        refine ⟨_, _, g, br_f (fun z => z w2) ?_⟩
        rw [a9, w32_s (z := i + 1) (by omega) (by omega)]
        refine ih (i + 1) (by omega) (by omega) (by omega) ie _ (MFr_u a1 (by omega)) ?_ ?_ ?_
        · rw [mupd_at, fup_at]
        · rw [mupd_at, fup_ne _ _ (by decide), a7]
        · rw [mupd_at, fup_ne _ _ (by decide), a8]
      · rw [if_neg w] at ie
        exact found m2 a1 (by omega) a7 a8 (by rw [← ie]; exact w)
  exact l8 160 n (Int.le_refl _) hn.2 (by omega) es.symm B (MFr_refl B) h9 h7 rfl
