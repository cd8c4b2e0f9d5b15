/-! PURE PROOFS 65: read: the other -/
def ReM (M m1 m : mMem) (R : Int → Int) (f : Int) (o : Int × Int × Nat × Int) : Prop := (o.2.2.2 = 1 ∧ FrM m m1) ∨ (o.2.2.2 = 0 ∧ PgC m M 0 (rdG M R f o.2.2.1).1 (rdG M R f o.2.2.1).2 ∧ m 53 30 = o.2.1 ∧ (∀ k : Nat, k ≠ 53 → k ≠ 54 → m k = m1 k) ∧ (∀ i : Int, i ≠ 30 → m 53 i = m1 53 i) ∧ ∀ i : Int, 60 ≤ i → i < 255 → m 54 i = m1 54 i)
theorem read_M {M m1 : mMem} (hg : Pg M 1 0) (hc : Cht M 1) {k a f n : Int} {kk nn : Nat} (sh : ShI M kk) (hk : k = kk) (hkk : kk < 4) (ha : 0 ≤ a ∧ a ≤ 2) (hn : n = nn) (hnn : nn ≤ 13) (hf : inR f) (m54 : m1 54 = M 54) (m64 : m1 64 = M 64) (m65 : m1 65 = M 65) (m66 : m1 66 = M 66) : mI3 10 187 [vr 53, vi k, vi a, vi f, vi n] m1 (fun v m => v = (rdO M (M (46 + 2 * kk)) (45 + 2 * kk) a f nn 0).1 ∧ ReM M m1 m (M (46 + 2 * kk)) f (rdO M (M (46 + 2 * kk)) (45 + 2 * kk) a f nn 0)) := by
  have sl := sh_len sh
  have f1 : -2147483648 ≤ f := hf.1
  have f2 : f < 2147483648 := hf.2
  have n5 : 0 ≤ M 1 5 ∧ M 1 5 ≤ 5 := hc.2.1
  obtain ⟨k5, hk5⟩ : ∃ k5 : Nat, M 1 5 = k5 := ⟨(M 1 5).toNat, by omega⟩
  have kb : 0 ≤ k ∧ k < 4 := by omega
  have nb : 0 ≤ n ∧ n ≤ 13 := by omega
  unfold ShI at sh
  rw [← hk] at sh
  generalize ho : rdO M (M (46 + 2 * kk)) (45 + 2 * kk) a f nn 0 = o
  refine mI3_i ⟨by decide, Nat.le_of_ble_eq_true rfl⟩ (fun K hK => q_M_read_0 hK k a f n m1 ⟨_, _, R_in 8 _ _ _ _, br_f (fun q => b2_0.mp q (by omega)) ⟨_, _, R_in 8 _ _ _ _, br_f (fun q => b2_0.mp q (by omega)) ⟨_, _, R_in 8 _ _ _ _, br_t (b2_n0.mpr (by omega)) ⟨_, R_copies 8 m1 0 255 (by omega) (by omega) (by omega), ?_⟩⟩⟩⟩)
  have w3n : w32 (3 * n) = 3 * n := w32_s (by omega) (by omega)
  have loop : ∀ (j i : Nat) (z : Int), z = i → i + j = nn → (z = 0 ∨ (0 ≤ f + 3 * (z - 1) ∧ f + 3 * (z - 1) ≤ 37)) → rdO M (M (46 + 2 * kk)) (45 + 2 * kk) a f j i = o → ∀ m', PgC m' M 0 (rdG M (M (46 + 2 * kk)) f i).1 (rdG M (M (46 + 2 * kk)) f i).2 → (∀ y : Nat, y ≠ 54 → m' y = m1 y) → (∀ x : Int, 60 ≤ x → x < 255 → m' 54 x = m1 54 x) → (∀ x : Int, 0 ≤ x → x < 85 → m' 54 (255 + x) = M 54 x) → K 56 [(0, vr 53), (1, vi k), (2, vi a), (3, vi f), (4, vi n), (5, vi 0), (6, vi z), (7, vi (3 * z))] [] (S0, m') := by
    intro j
    induction j with
    | zero =>
      intro i z hz hi hr he m' h1 h2 h3 h5
      have e : o = ((i : Int), 0, i, 0) := he.symm
      rw [← hz] at e
      refine q_M_read_56 hK _ _ _ _ _ _ _ m' (br_t (by rw [w3n]; omega) (rI_i ⟨?_, ?_⟩))
      · rw [e]
      · rw [e]
        refine Or.inr ⟨rfl, G_eq h1 hc (fun y _ _ => by rw [mupd_ne _ _ _ (by decide)]), by rw [mupd_at, fup_at], fun y a b => by rw [mupd_ne _ _ _ a, h2 y b], fun x hx => by rw [mupd_at, fup_ne _ _ hx, h2 53 (by decide)], fun x a b => by rw [mupd_ne _ _ _ (by decide), h3 x a b]⟩
    | succ j ih =>
      intro i z hz hi hr he m' h1 h2 h3 h5
      have h4 := ih (i + 1) (z + 1) (by omega) (by omega)
      rw [rdO_s, ← hz] at he
      rw [rdG_s, ← hz, show z + 1 - 1 = z by omega] at h4
      generalize hg' : rdG M (M (46 + 2 * kk)) f i = g at h1 he h4
      have zb : 0 ≤ z ∧ z < n ∧ z ≤ 13 := by omega
      clear hi ih hz
      have e64 : m' 64 = M 64 := by rw [h2 64 (by decide), m64]
      have e65 : m' 65 = M 65 := by rw [h2 65 (by decide), m65]
      have e66 : m' 66 = M 66 := by rw [h2 66 (by decide), m66]
      have fin : ∀ (s0 y : Int), s0 ≠ 0 → 3 * z ≤ y → y < 3 * z + 3 → faV M (45 + 2 * kk) a (f + 3 * z) = s0 → K 126 [(0, vr 53), (1, vi k), (2, vi a), (3, vi f), (4, vi n), (6, vi z), (7, vi y)] [vi s0] (S0, m') := by
        intro s0 y hs0 y0 y1 fv
        rw [fv, if_pos hs0] at he
        have rr : rI (fun v m => v = o.1 ∧ ReM M m1 m (M (46 + 2 * kk)) f o) (some (vi z)) (S0, mupd m' 53 30 s0) := by
          refine rI_i ⟨?_, ?_⟩
          · rw [← he]
          · rw [← he]
            refine Or.inr ⟨rfl, ?_, by rw [mupd_at, fup_at], fun y a b => by rw [mupd_ne _ _ _ a, h2 y b], fun x hx => by rw [mupd_at, fup_ne _ _ hx, h2 53 (by decide)], fun x a b => by rw [mupd_ne _ _ _ (by decide), h3 x a b]⟩
            show PgC _ M 0 (rdG M (M (46 + 2 * kk)) f i).1 (rdG M (M (46 + 2 * kk)) f i).2
            rw [hg']
            exact G_eq h1 hc (fun y _ _ => by rw [mupd_ne _ _ _ (by decide)])
        exact q_M_read_126 hK _ _ _ _ _ _ s0 m' (br_t hs0 (q_M_read_56 hK _ _ _ _ _ _ _ m' ⟨fun _ => rr, fun _ => br_t hs0 rr⟩))
      have l0 : ∀ y : Int, 3 * z ≤ y → y < 3 * z + 3 → ¬ w32 (3 * n) ≤ y := fun y a b => by
        rw [w3n]
        omega
      rcases sh with ⟨s1, s2⟩ | ⟨s1, s2, s3, s4, s5⟩
      · have fv : faV M (45 + 2 * kk) a (f + 3 * z) = 1 := by
          unfold faV
          rw [if_pos (by omega)]
        refine q_M_read_56 hK _ _ _ _ _ _ _ m' (br_f (l0 _ (by omega) (by omega)) (br_f (by decide) ?_))
        rw [e64]
        exact mIn_i kb.1 (by omega) (br_f (fun q => q s2) (fin 1 _ (by decide) (by omega) (by omega) fv))
      · by_cases la : M (45 + 2 * kk) 1 = a
        · have w65 : w32 (M 65 k - 1) = M (45 + 2 * kk) 2 - 1 := by
            rw [s4]
            exact w32_s (by omega) (by omega)
          have chk : ∀ y : Int, 3 * z ≤ y → y < 3 * z + 3 → (¬ (0 ≤ f + y ∧ f + y ≤ M (45 + 2 * kk) 2 - 1) → K 126 [(0, vr 53), (1, vi k), (2, vi a), (3, vi f), (4, vi n), (6, vi z), (7, vi y)] [vi 2] (S0, m')) → ((0 ≤ f + y ∧ f + y ≤ M (45 + 2 * kk) 2 - 1) → K 126 [(0, vr 53), (1, vi k), (2, vi a), (3, vi f), (4, vi n), (6, vi z), (7, vi y)] [vi 0] (S0, m')) → K 56 [(0, vr 53), (1, vi k), (2, vi a), (3, vi f), (4, vi n), (5, vi 0), (6, vi z), (7, vi y)] [] (S0, m') := by
            intro y y0 y1 no yes
            refine q_M_read_56 hK _ _ _ _ _ _ _ m' (br_f (l0 y y0 y1) (br_f (by decide) ?_))
            have w64y : w64 (f + y) = f + y := w64_id ⟨by omega, by omega⟩
            rw [e64, e65, w65, w64y, s3]
            refine mIn_i kb.1 (by omega) (br_t (by omega) (mIn_i kb.1 (by omega) (br_t la (mIn_i kb.1 (by omega) ⟨_, _, R_in 8 _ _ _ _, fun q => ?_, fun q => ?_⟩))))
            · have q := b2_n0.mp q
              exact yes (by omega)
            · have q := b2_0.mp (Decidable.not_not.mp q)
              exact no (by omega)
          have fv2 : ¬ (0 ≤ f + 3 * z ∧ f + 3 * z ≤ M (45 + 2 * kk) 2 - 3) → faV M (45 + 2 * kk) a (f + 3 * z) = 2 := fun q => by
            unfold faV
            rw [if_neg (by omega), if_pos la, if_neg q]
          have step : ∀ y : Int, 3 * z ≤ y → y < 3 * z + 2 → K 56 [(0, vr 53), (1, vi k), (2, vi a), (3, vi f), (4, vi n), (5, vi 0), (6, vi z), (7, vi (y + 1))] [] (S0, m') → K 126 [(0, vr 53), (1, vi k), (2, vi a), (3, vi f), (4, vi n), (6, vi z), (7, vi y)] [vi 0] (S0, m') := by
            intro y y0 y1 nx
            have jr : jrem y 3 = y % 3 := jrem_nn (by omega)
            refine q_M_read_126 hK _ _ _ _ _ _ 0 m' (br_f (fun q => q rfl) ?_)
            rw [jr, w32_s (z := y + 1) (by omega) (by omega)]
            exact br_t (by omega) nx
          refine chk (3 * z) (by omega) (by omega) (fun q => fin 2 _ (by decide) (by omega) (by omega) (fv2 (by omega))) (fun q0 => step (3 * z) (by omega) (by omega) ?_)
          refine chk (3 * z + 1) (by omega) (by omega) (fun q => fin 2 _ (by decide) (by omega) (by omega) (fv2 (by omega))) (fun q1 => step (3 * z + 1) (by omega) (by omega) ?_)
          rw [show 3 * z + 1 + 1 = 3 * z + 2 by omega]
          refine chk (3 * z + 2) (by omega) (by omega) (fun q => fin 2 _ (by decide) (by omega) (by omega) (fv2 (by omega))) (fun q2 => ?_)
          have fv0 : ¬ faV M (45 + 2 * kk) a (f + 3 * z) ≠ 0 := fun w => w (by
            unfold faV
            rw [if_neg (by omega), if_pos la, if_pos (by omega)])
          rw [if_neg fv0] at he
          have jr : jrem (3 * z + 2) 3 = 2 := by
            rw [jrem_nn (by omega)]
            omega
          have i2 : w32 (w32 (w32 (w32 (40 * k) + f) + (3 * z + 2)) - 2) = 40 * k + (f + 3 * z) := by
            rw [w32_s (z := 40 * k) (by omega) (by omega), w32_s (z := 40 * k + f) (by omega) (by omega), w32_s (z := 40 * k + f + (3 * z + 2)) (by omega) (by omega), w32_s (by omega) (by omega)]
            omega
          have i1 : w32 (w32 (w32 (w32 (40 * k) + f) + (3 * z + 2)) - 1) = 40 * k + (f + 3 * z + 1) := by
            rw [w32_s (z := 40 * k) (by omega) (by omega), w32_s (z := 40 * k + f) (by omega) (by omega), w32_s (z := 40 * k + f + (3 * z + 2)) (by omega) (by omega), w32_s (by omega) (by omega)]
            omega
          have i0 : w32 (w32 (w32 (40 * k) + f) + (3 * z + 2)) = 40 * k + (f + 3 * z + 2) := by
            rw [w32_s (z := 40 * k) (by omega) (by omega), w32_s (z := 40 * k + f) (by omega) (by omega), w32_s (by omega) (by omega)]
            omega
          have r0 := s5 (f + 3 * z) (by omega) (by omega)
          have r1 := s5 (f + 3 * z + 1) (by omega) (by omega)
          have r2 := s5 (f + 3 * z + 2) (by omega) (by omega)
          refine q_M_read_126 hK _ _ _ _ _ _ 0 m' (br_f (fun q => q rfl) ?_)
          rw [jr, i2, i1, i0, e66, r0, r1, r2, w32_s (z := 3 * z + 2 + 1) (by omega) (by omega), w32_s (z := z + 1) (by omega) (by omega), w32_s (z := -20 - z) (by omega) (by omega)]
          refine br_f (fun q => q rfl) (mIn_i (by omega) (by omega) (mIn_i (by omega) (by omega) (mIn_i (by omega) (by omega) (cI (G_works 5 hc hk5 h1) (fun v m2 p => ?_)))))
          rcases p with ⟨p1, p2, p3⟩ | ⟨p1, p2, p3⟩
          · rw [if_pos p1] at he
            refine br_f (by omega) ⟨_, R_copies 8 m2 255 0 (by omega) (by omega) (by omega), rI_i ⟨?_, ?_⟩⟩
            · rw [← he]
            · rw [← he, p3]
              refine Or.inl ⟨rfl, ⟨fun y a b _ _ _ => ?_, ?_, ?_, ?_, ?_, fun x x0 x1 => ?_⟩⟩
              · rw [mcpy_ne _ _ _ _ _ b, h2 y b]
              · rw [mcpy_ne _ _ _ _ _ (by decide), h2 53 (by decide)]
              · rw [mcpy_ne _ _ _ _ _ (by decide), h2 53 (by decide)]
              · rw [mcpy_ne _ _ _ _ _ (by decide), h2 53 (by decide)]
              · rw [mcpy_ne _ _ _ _ _ (by decide), h2 53 (by decide)]
              · unfold mcpy
                by_cases w : x < 85
                · rw [if_pos ⟨rfl, by omega, by omega⟩, show 255 + (x - 0) = 255 + x by omega, h5 x x0 w, m54]
                · rw [if_neg (by omega), h3 x (by omega) x1]
          · rw [if_neg p1] at he
            have ok := okI_1 p1
            refine br_t p2 ?_
            rw [p3, show 3 * z + 2 + 1 = 3 * (z + 1) by omega]
            refine h4 (Or.inr ⟨by omega, by omega⟩) he _ (G_st h1 hc (by omega) ok.2.1 ok.2.2.2) (fun y a => by rw [stM_ne _ _ _ _ a, h2 y a]) (fun x x0 x1 => ?_) (fun x x0 x1 => ?_)
            · unfold stM
              rw [mupd_at, fup_ne _ _ (by omega), mupd_at, fup_ne _ _ (by omega), h3 x x0 x1]
            · unfold stM
              rw [mupd_at, fup_ne _ _ (by omega), mupd_at, fup_ne _ _ (by omega), h5 x x0 x1]
        · have fv : faV M (45 + 2 * kk) a (f + 3 * z) = 3 := by
            unfold faV
            rw [if_neg (by omega), if_neg la]
          refine q_M_read_56 hK _ _ _ _ _ _ _ m' (br_f (l0 _ (by omega) (by omega)) (br_f (by decide) ?_))
          rw [e64, s3]
          exact mIn_i kb.1 (by omega) (br_t (by omega) (mIn_i kb.1 (by omega) (br_f la (fin 3 _ (by decide) (by omega) (by omega) fv))))
  refine loop nn 0 0 rfl (by omega) (Or.inl rfl) ho _ (G_0 hg hc (fun x x0 x1 => ?_)) (fun y a => mcpy_ne _ _ _ _ _ a) (fun x x0 x1 => ?_) (fun x x0 x1 => ?_)
  · unfold mcpy
    rw [if_neg (by omega), m54]
  · unfold mcpy
    rw [if_neg (by omega)]
  · unfold mcpy
    rw [if_pos ⟨rfl, by omega, by omega⟩, m54, show 0 + (255 + x - 255) = x by omega]
