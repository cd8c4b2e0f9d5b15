/-! PURE PROOFS 63: read: what both do -/
/-- the fault of taking three from there -/
def faV (M : mMem) (c : Nat) (a z : Int) : Int := if M c 2 < 0 then 1 else if M c 1 = a then (if 0 ≤ z ∧ z ≤ M c 2 - 3 then 0 else 2) else 3
theorem R_faultAsOf (d : Nat) (M : mMem) (c : Nat) (hc : c = 45 ∨ c = 47 ∨ c = 49 ∨ c = 51) (a z : Int) (hl : -1 ≤ M c 2 ∧ M c 2 ≤ 40) : mR3 (d + 2) 28 [vr c, vi a, vi z, vi 3] (S0, M) (some (vi (faV M c a z)), (S0, M)) := by
  have g := R_faultAt d M c hc z 3 hl (by omega)
  refine ⟨⟨by decide, Nat.le_of_ble_eq_true rfl⟩, fun K hK => q_S_faultAsOf_0 hK c a z 3 M hc ⟨fun q => ⟨_, _, g, mret_i ?_ rfl⟩, fun q => ⟨fun q2 => ⟨_, _, g, mret_i ?_ rfl⟩, fun q2 => mret_i ?_ rfl⟩⟩⟩
  · unfold faV
    rw [if_pos q, if_pos q]
  · unfold faV
    rw [if_neg q, if_neg q, if_pos q2]
  · unfold faV
    rw [if_neg q, if_neg q2]
def rdG (M : mMem) (R : Int → Int) (f : Int) : Nat → (Int → Int) × (Int → Int)
  | 0 => (M 2, M 3)
  | i + 1 => (fup (rdG M R f i).1 (6 * R (f + 3 * (i : Nat)) + R (f + 3 * (i : Nat) + 1)) (R (f + 3 * (i : Nat) + 2)), fup (rdG M R f i).2 (R (f + 3 * (i : Nat) + 2)) ((rdG M R f i).2 (R (f + 3 * (i : Nat) + 2)) - 1))
theorem rdG_s (M : mMem) (R : Int → Int) (f : Int) (i : Nat) : rdG M R f (i + 1) = (fup (rdG M R f i).1 (6 * R (f + 3 * (i : Nat)) + R (f + 3 * (i : Nat) + 1)) (R (f + 3 * (i : Nat) + 2)), fup (rdG M R f i).2 (R (f + 3 * (i : Nat) + 2)) ((rdG M R f i).2 (R (f + 3 * (i : Nat) + 2)) - 1)) := rfl
/-- can the stitch that is told be worked -/
def okI (g : (Int → Int) × (Int → Int)) (x y c : Int) : Int := b2 ((0 ≤ x ∧ x < 6 ∧ 0 ≤ y ∧ y < 6) ∧ (1 ≤ c ∧ c ≤ 3) ∧ g.1 (6 * x + y) = 0 ∧ 0 < g.2 c)
def rdO (M : mMem) (R : Int → Int) (c : Nat) (a f : Int) : Nat → Nat → Int × Int × Nat × Int
  | 0, i => ((i : Int), 0, i, 0)
  | j + 1, i => if faV M c a (f + 3 * (i : Nat)) ≠ 0 then ((i : Int), faV M c a (f + 3 * (i : Nat)), i, 0) else if okI (rdG M R f i) (R (f + 3 * (i : Nat))) (R (f + 3 * (i : Nat) + 1)) (R (f + 3 * (i : Nat) + 2)) = 0 then (-20 - (i : Int), 0, 0, 1) else rdO M R c a f j (i + 1)
theorem rdO_s (M : mMem) (R : Int → Int) (c : Nat) (a f : Int) (j i : Nat) : rdO M R c a f (j + 1) i = if faV M c a (f + 3 * (i : Nat)) ≠ 0 then ((i : Int), faV M c a (f + 3 * (i : Nat)), i, 0) else if okI (rdG M R f i) (R (f + 3 * (i : Nat))) (R (f + 3 * (i : Nat) + 1)) (R (f + 3 * (i : Nat) + 2)) = 0 then (-20 - (i : Int), 0, 0, 1) else rdO M R c a f j (i + 1) := rfl
theorem L_wf (d : Nat) {m M : mMem} {g : (Int → Int) × (Int → Int)} {c : Nat} (hc : c = 45 ∨ c = 47 ∨ c = 49 ∨ c = 51) {z : Int} (hz : 0 ≤ z ∧ z ≤ 37) (h : TrC m M g.1 g.2) : mR3 (d + 4) 102 [vr 0, vr c, vi z] (S0, m) (some (vi (okI g (m (c + 1) z) (m (c + 1) (z + 1)) (m (c + 1) (z + 2)))), (S0, if okI g (m (c + 1) z) (m (c + 1) (z + 1)) (m (c + 1) (z + 2)) = 0 then m else takeM m 9 (6 * m (c + 1) z + m (c + 1) (z + 1)) (m (c + 1) (z + 2)))) := by
  refine ⟨⟨by decide, Nat.le_of_ble_eq_true rfl⟩, fun K hK => q_L_workFrom_0 hK c z m hc ?_⟩
  rw [w32_s (z := z + 1) (by omega) (by omega), w32_s (z := z + 2) (by omega) (by omega)]
  refine mIn_i (by omega) (by omega) (mIn_i (by omega) (by omega) (mIn_i (by omega) (by omega) ?_))
  generalize m (c + 1) z = x
  generalize m (c + 1) (z + 1) = y
  generalize m (c + 1) (z + 2) = w
  unfold okI
  refine ⟨_, _, R_isCell (d + 2) m x y, fun q => ?_, fun q => ⟨_, _, R_isColour (d + 2) m w, fun q2 => ?_, fun q2 => ?_⟩⟩
  · have q := b2_0.mp q
    rw [b2_f (fun u => q u.1), if_pos rfl]
    exact mret_i rfl rfl
  · have q2 := b2_0.mp q2
    rw [b2_f (fun u => q2 u.2.1), if_pos rfl]
    exact mret_i rfl rfl
  · have q := b2_n0.mp q
    have q2 := b2_n0.mp q2
    refine ⟨_, _, R_place (d + 2) m (x := x) (y := y) (by omega) (by omega), _, _, T_can (d + 2) h (t := 6 * x + y) (c := w) (by omega) q2, fun q3 => ?_, fun q3 => ?_⟩
    · have q3 := b2_n0.mp q3
      rw [b2_t ⟨q, q2, q3⟩, if_neg (by decide)]
      exact ⟨_, _, R_place (d + 2) m (x := x) (y := y) (by omega) (by omega), _, R_take d m 9 (by omega) (6 * x + y) w (by omega) q2 h.1.1.1, mret_i rfl rfl⟩
    · have q3 := b2_0.mp (Decidable.not_not.mp q3)
      rw [b2_f (fun u => q3 u.2.2), if_pos rfl]
      exact mret_i rfl rfl
theorem G_works (d : Nat) {m M : mMem} {g : (Int → Int) × (Int → Int)} {x y c : Int} {k : Nat} (hc : Cht M 1) (hk : M 1 5 = k) (h : PgC m M 0 g.1 g.2) : mI3 (d + 4) 149 [vr 53, vi x, vi y, vi c] m (fun v m' => (okI g x y c = 0 ∧ v < 0 ∧ m' = m) ∨ (okI g x y c ≠ 0 ∧ 0 ≤ v ∧ m' = stM m 0 (6 * x + y) c)) := by
  have n5 : 0 ≤ M 1 5 ∧ M 1 5 ≤ 5 := hc.2.1
  have hL := hc.2.2.1
  rw [hk] at hL
  by_cases q : (0 ≤ x ∧ x < 6 ∧ 0 ≤ y ∧ y < 6) ∧ 1 ≤ c ∧ c ≤ 3
  · have g1 := h.1 (6 * x + y) (by omega) (by omega)
    have g2 := h.2.1 c q.2.1 q.2.2
    by_cases q2 : g.1 (6 * x + y) = 0 ∧ 0 < g.2 c
    · have st := G_st h hc (t := 6 * x + y) (v := c) (by omega) q.2 q2.2
      have sl := G_law st hc
      rw [hk] at sl
      have r := R_works_t d m k q.1 q.2 (by omega) (by omega) (by rw [st.2.2.1, hk]) (by omega) sl
      refine ⟨_, _, Or.inr ⟨?_, ?_, rfl⟩, r⟩
      · unfold okI
        rw [b2_t ⟨q.1, q.2, q2⟩]
        decide
      · exact (woS_rng sl).1
    · refine ⟨_, _, Or.inl ⟨?_, by decide, rfl⟩, R_works_s d m q.1 q.2 (by omega) (by omega)⟩
      unfold okI
      rw [b2_f (fun u => q2 u.2.2)]
  · refine ⟨_, _, Or.inl ⟨?_, by decide, rfl⟩, R_works_b d m q⟩
    unfold okI
    rw [b2_f (fun u => q ⟨u.1, u.2.1⟩)]
theorem okI_01 (g : (Int → Int) × (Int → Int)) (x y c : Int) : okI g x y c = 0 ∨ okI g x y c = 1 := b2_01 _
theorem okI_1 {g : (Int → Int) × (Int → Int)} {x y c : Int} (h : okI g x y c ≠ 0) : (0 ≤ x ∧ x < 6 ∧ 0 ≤ y ∧ y < 6) ∧ (1 ≤ c ∧ c ≤ 3) ∧ g.1 (6 * x + y) = 0 ∧ 0 < g.2 c := b2_n0.mp h
