/-! PURE PROOFS 39: loose -/
def loS (M : mMem) (l : Int) : Nat → Int × Int
  | 0 => (-4, -(rdL (M 4) (M 2) l))
  | i + 1 => if 1 ≤ M 2 (i : Nat) ∧ M 2 (i : Nat) ≤ 3 then off (loS M l i) (10 * ((i : Nat) / 6) + (i : Nat) % 6) (-(rdL (M 4) (fup (M 2) (i : Nat) 0) l)) else loS M l i
theorem loS_s (M : mMem) (l : Int) (i : Nat) : loS M l (i + 1) = if 1 ≤ M 2 (i : Nat) ∧ M 2 (i : Nat) ≤ 3 then off (loS M l i) (10 * ((i : Nat) / 6) + (i : Nat) % 6) (-(rdL (M 4) (fup (M 2) (i : Nat) 0) l)) else loS M l i := rfl
theorem loS_rng (M : mMem) (l : Int) : ∀ i : Nat, -60 ≤ (loS M l i).2 ∧ (loS M l i).2 ≤ 0
  | 0 => by
    have h := rdL_rng (M 4) (M 2) l
    show -60 ≤ -(rdL (M 4) (M 2) l) ∧ -(rdL (M 4) (M 2) l) ≤ 0
    omega
  | i + 1 => by
    have h1 := loS_rng M l i
    have h := rdL_rng (M 4) (fup (M 2) (i : Nat) 0) l
    rw [loS_s]
    unfold off
    split
    · split
      · exact h1
      · show -60 ≤ -(rdL (M 4) (fup (M 2) (i : Nat) 0) l) ∧ -(rdL (M 4) (fup (M 2) (i : Nat) 0) l) ≤ 0
        omega
    · exact h1
theorem P_loose {M : mMem} (h : Inv M) (l x : Int) : PairI 67 163 [vi l, vi x] M := by
  have hc := h.1
  have hp := Pg0_of h.2.1
  have n5 : 0 ≤ M 1 5 ∧ M 1 5 ≤ 5 := hc.2.1
  have p3 : M 54 39 = M 1 5 := hp.2.2.1
  have cel : ∀ i : Int, 0 ≤ i → i < 36 → 0 ≤ M 2 i ∧ M 2 i ≤ 4 := hc.1.1
  by_cases c : (0 ≤ l ∧ l < M 1 5) ∧ (x = 0 ∨ x = 1)
  · refine ask_pair (V := if (loS M l 36).1 = -4 then (loS M l 36).1 else if x ≠ 0 then -(loS M l 36).2 else (loS M l 36).1) h ?_ (fun m hm => ?_)
    · refine mI3_i ⟨by decide, Nat.le_of_ble_eq_true rfl⟩ (fun K hK => ?_)
      have loop : ∀ (j i : Nat), i + j = 36 → ∀ m' : mMem, TrC m' M (M 2) (M 3) → ChC m' (loS M l i) → FrL m' M → K 46 [(0, vr 0), (1, vi l), (2, vi x), (3, vi (i : Int))] [] (S0, m') := by
        intro j
        induction j with
        | zero =>
          intro i hi m' h0 h1 h2
          rw [show i = 36 by omega] at h1 ⊢
          have r := loS_rng M l 36
          refine q_L_loose_46 hK _ _ _ m' (br_t (by decide) ?_)
          rw [h1.1, h1.2]
          refine ⟨fun q => rI_i ⟨?_, h2⟩, fun q => ⟨fun q2 => rI_i ⟨?_, h2⟩, fun q2 => rI_i ⟨?_, h2⟩⟩⟩
          · rw [if_pos q]
          · rw [if_neg q, if_pos q2]
            exact w32_s (by omega) (by omega)
          · rw [if_neg q, if_neg q2]
        | succ j ih =>
          intro i hi m' h0 h1 h2
          have h4 := ih (i + 1) (by omega)
          rw [loS_s] at h4
          generalize loS M l i = st at h1 h4
          have hz : ∃ z : Int, z = (i : Int) := ⟨_, rfl⟩
          obtain ⟨z, hz⟩ := hz
          have ez : ((i + 1 : Nat) : Int) = z + 1 := by omega
          rw [ez, ← hz] at h4
          rw [← hz]
          have zb : 0 ≤ z ∧ z < 36 := by omega
          clear hz ez hi ih
          have ew : w32 (z + 1) = z + 1 := w32_s (by omega) (by omega)
          have cz := cel z zb.1 zb.2
          have mz : m' 10 z = M 2 z := h0.2.1 z zb.1 zb.2
          have cd : w32 (w32 (10 * jdiv z 6) + jrem z 6) = 10 * (z / 6) + z % 6 := by
            rw [jdiv_nn zb.1 (by omega) (by omega), jrem_nn zb.1, w32_s (z := 10 * (z / 6)) (by omega) (by omega), w32_s (by omega) (by omega)]
          refine q_L_loose_46 hK _ _ _ m' (br_f (by omega) ?_)
          rw [ew, mz, cd]
          refine mIn_i (by omega) (by omega) ⟨_, _, R_isColour 8 m' _, fun q => ?_, fun q => ?_⟩
          · rw [if_neg (b2_0.mp q)] at h4
            exact h4 m' h0 h1 h2
          · have q := b2_n0.mp q
            rw [if_pos q] at h4
            have t1 := T_put h0 zb (v := 0) (by omega)
            have u1 : ∀ k : Nat, k ≠ 10 → k ≠ 15 → k ≠ 16 → putM m' 9 z 0 k = m' k := fun k a b c => put_ne _ _ _ _ a b c
            have c1 : ChC (putM m' 9 z 0) st := by
              unfold ChC
              rw [u1 37 (by decide) (by decide) (by decide)]
              exact h1
            have rr := rdL_rng (M 4) (fup (M 2) z 0) l
            refine ⟨_, R_put 7 m' 9 (by omega) z 0 zb (by omega) h0.1.1.1, _, _, T_reads 7 t1 c.1, ?_⟩
            rw [w32_s (z := -(rdL (M 4) (fup (M 2) z 0) l)) (by omega) (by omega)]
            refine cN (C_offer 8 c1 _ _) (fun m2 p => ?_)
            obtain ⟨p1, p2⟩ := p
            have t2 : TrC m2 M (fup (M 2) z 0) (M 3) := T_eq t1 (fun k a b => p2 k (by omega)) (by rw [p2 9 (by decide)]) (by rw [p2 9 (by decide)])
            have t3 : TrC (putM m2 9 z (M 2 z)) M (M 2) (M 3) := T_cong (T_put t2 zb (v := M 2 z) cz) (fun y _ _ => by
              unfold fup
              split
              · rename_i e
                rw [e]
              · rfl)
            have u2 : ∀ k : Nat, k ≠ 10 → k ≠ 15 → k ≠ 16 → putM m2 9 z (M 2 z) k = m2 k := fun k a b c => put_ne _ _ _ _ a b c
            refine ⟨_, R_put 7 m2 9 (by omega) z (M 2 z) zb cz t2.1.1.1, h4 _ t3 ?_ (FrL_row (FrL_row (FrL_row h2 (fun k a _ _ _ _ _ => u1 k (by omega) (by omega) (by omega))) (fun k _ a _ _ _ _ => p2 k a)) (fun k a _ _ _ _ _ => u2 k (by omega) (by omega) (by omega)))⟩
            unfold ChC
            rw [u2 37 (by decide) (by decide) (by decide)]
            exact p1
      have t0 := T_copy (m := M) hc (fun _ _ _ => rfl)
      have rr := rdL_rng (M 4) (M 2) l
      refine q_L_loose_0 hK l x M ⟨_, _, R_isLaw 8 M l, br_f (fun q => b2_0.mp q c.1) ⟨_, _, R_isPart 8 M x, br_t (b2_n0.mpr c.2) ⟨_, R_copyFrom 8 M 9 1 (by unfold cpP; omega), _, _, T_reads 7 t0 c.1, ?_⟩⟩⟩
      rw [w32_s (z := -(rdL (M 4) (M 2) l)) (by omega) (by omega)]
      refine cN (C_begin 8 _ _) (fun m2 p => ?_)
      exact loop 36 0 (by omega) m2 (T_eq t0 (fun k a b => p.2 k (by omega)) (by rw [p.2 9 (by decide)]) (by rw [p.2 9 (by decide)])) p.1 (FrL_row (FrL_row (FrL_refl M) (fun k a _ _ _ _ _ => cpy_ne M (by omega))) (fun k _ a _ _ _ _ => p.2 k a))
    · refine mI3_i ⟨by decide, Nat.le_of_ble_eq_true rfl⟩ (fun K hK => ?_)
      have m54 := (FrL_lo hm).2
      have m39 : m 54 39 = M 1 5 := by rw [m54, p3]
      have loop : ∀ (j i : Nat), i + j = 36 → ∀ (m' : mMem) (st : Int × Int), st = loS M l i → FrM m' m → K 35 [(0, vr 53), (1, vi l), (2, vi x), (3, vi (-st.2)), (4, vi st.1), (5, vi (i : Int))] [] (S0, m') := by
        intro j
        induction j with
        | zero =>
          intro i hi m' st h1 h2
          rw [show i = 36 by omega] at h1 ⊢
          refine q_M_loose_35 hK _ _ _ _ _ m' (br_t (by decide) ⟨fun q => rI_i ⟨?_, h2⟩, fun q => ⟨fun q2 => rI_i ⟨?_, h2⟩, fun q2 => rI_i ⟨?_, h2⟩⟩⟩)
          · rw [← h1, if_pos q]
          · rw [← h1, if_neg q, if_pos q2]
          · rw [← h1, if_neg q, if_neg q2]
        | succ j ih =>
          intro i hi m' st h1 h2
          have h4 := ih (i + 1) (by omega)
          rw [loS_s, ← h1] at h4
          have hz : ∃ z : Int, z = (i : Int) := ⟨_, rfl⟩
          obtain ⟨z, hz⟩ := hz
          have ez : ((i + 1 : Nat) : Int) = z + 1 := by omega
          rw [ez, ← hz] at h4
          rw [← hz]
          have zb : 0 ≤ z ∧ z < 36 := by omega
          clear hz ez hi ih h1
          have ew : w32 (z + 1) = z + 1 := w32_s (by omega) (by omega)
          have cz := cel z zb.1 zb.2
          have pg : ∀ y : Int, 0 ≤ y → y < 85 → m' 54 y = M 54 y := fun y a b => by rw [h2.2.2.2.2.2 y a (by omega), m54]
          have mz : m' 54 z = M 2 z := by rw [pg z zb.1 (by omega), hp.1 z zb.1 zb.2]
          have cd : w32 (w32 (10 * jdiv z 6) + jrem z 6) = 10 * (z / 6) + z % 6 := by
            rw [jdiv_nn zb.1 (by omega) (by omega), jrem_nn zb.1, w32_s (z := 10 * (z / 6)) (by omega) (by omega), w32_s (by omega) (by omega)]
          refine q_M_loose_35 hK _ _ _ _ _ m' (br_f (by omega) ?_)
          rw [ew, mz, cd]
          refine mIn_i (by omega) (by omega) ⟨_, _, R_mIsColour 7 m' _, fun q => ?_, fun q => ?_⟩
          · rw [if_neg (b2_0.mp q)] at h4
            exact h4 m' st rfl h2
          · have q := b2_n0.mp q
            rw [if_pos q] at h4
            have g := G_set (v := 0) (G_0 (m := m') h.2.1 hc pg) hc zb
            rw [Int.zero_add] at g
            have fr : FrM (mupd (mupd m' 54 z 0) 54 z (M 2 z)) m := FrM_54 h2 (fun k a => by rw [mupd_ne _ _ _ a, mupd_ne _ _ _ a]) (fun y a b => by
              rw [mupd_at, mupd_at]
              unfold fup
              split
              · rename_i e
                rw [e, mz]
              · rfl)
            refine mIn_i (by omega) (by omega) ⟨_, _, G_reads 7 g (by omega) hc c.1, mIn_i (by omega) (by omega) ?_⟩
            generalize rdL (M 4) (fup (M 2) z 0) l = r at h4
            unfold off at h4
            refine ⟨fun q2 => q_M_loose_110 hK _ _ _ _ _ _ _ ?_, fun q2 => q_M_loose_110 hK _ _ _ _ _ _ _ ?_⟩
            · rw [ew]
              refine br_t q2 ?_
              rw [if_pos (by omega)] at h4
              exact h4 _ st rfl fr
            · rw [ew]
              refine br_f q2 ?_
              rw [if_neg (by omega)] at h4
              have h5 := h4 _ _ rfl fr
              rw [show -(10 * (z / 6) + z % 6, -r).2 = r from Int.neg_neg r] at h5
              exact h5
      have g := G_reads 7 (G_0 (m := m) h.2.1 hc (fun a q0 q1 => by rw [m54])) (by omega) hc c.1
      have l0 := loop 36 0 (by omega) m _ rfl (FrM_refl m)
      have l1 : K 35 [(0, vr 53), (1, vi l), (2, vi x), (3, vi (- -(rdL (M 4) (M 2) l))), (4, vi (-4)), (5, vi 0)] [] (S0, m) := l0
      rw [Int.neg_neg] at l1
      exact q_M_loose_0 hK l x m ⟨_, _, R_mIsLaw 7 m l (by rw [m39]; exact n5), br_f (fun q => b2_0.mp q (by rw [m39]; exact c.1)) ⟨_, _, R_in 8 _ _ _ _, br_t (b2_n0.mpr (by omega)) ⟨_, _, g, l1⟩⟩⟩
  · refine ⟨-1, M, M, ⟨⟨by decide, Nat.le_of_ble_eq_true rfl⟩, fun K hK => q_L_loose_0 hK l x M ⟨_, _, R_isLaw 8 M l, ⟨fun _ => mret_i rfl rfl, fun q => ⟨_, _, R_isPart 8 M x, br_f (fun q2 => c ⟨b2_n0.mp q, b2_n0.mp q2⟩) (mret_i rfl rfl)⟩⟩⟩⟩, ⟨⟨by decide, Nat.le_of_ble_eq_true rfl⟩, fun K hK => q_M_loose_0 hK l x M ⟨_, _, R_mIsLaw 7 M l (by rw [p3]; exact n5), ⟨fun _ => mret_i rfl rfl, fun q => ⟨_, _, R_in 8 _ _ _ _, br_f (fun q2 => ?_) (mret_i rfl rfl)⟩⟩⟩⟩, h⟩
    have q := b2_n0.mp q
    have q2 := b2_n0.mp q2
    rw [p3] at q
    exact c ⟨q, by omega⟩
