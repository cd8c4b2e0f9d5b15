/-! PURE PROOFS 33: the plan gone through: runs, ahead -/
def plS (P Q f s : Int → Int) (but : Int) : Nat → (Int → Int) × (Int → Int) × Int × Int
  | 0 => (f, s, 0, -4)
  | i + 1 => if (i : Int) = but then plS P Q f s but i else if (plS P Q f s but i).1 (P i) = 0 ∧ 0 < (plS P Q f s but i).2.1 (Q i) then (fup (plS P Q f s but i).1 (P i) (Q i), fup (plS P Q f s but i).2.1 (Q i) ((plS P Q f s but i).2.1 (Q i) - 1), (plS P Q f s but i).2.2.1 + 1, (plS P Q f s but i).2.2.2) else if (plS P Q f s but i).2.2.2 = -4 then ((plS P Q f s but i).1, (plS P Q f s but i).2.1, (plS P Q f s but i).2.2.1, (i : Int)) else plS P Q f s but i
theorem plS_s (P Q f s : Int → Int) (but : Int) (i : Nat) : plS P Q f s but (i + 1) = if (i : Int) = but then plS P Q f s but i else if (plS P Q f s but i).1 (P i) = 0 ∧ 0 < (plS P Q f s but i).2.1 (Q i) then (fup (plS P Q f s but i).1 (P i) (Q i), fup (plS P Q f s but i).2.1 (Q i) ((plS P Q f s but i).2.1 (Q i) - 1), (plS P Q f s but i).2.2.1 + 1, (plS P Q f s but i).2.2.2) else if (plS P Q f s but i).2.2.2 = -4 then ((plS P Q f s but i).1, (plS P Q f s but i).2.1, (plS P Q f s but i).2.2.1, (i : Int)) else plS P Q f s but i := rfl
/-- the plan of M, gone through but for one stitch -/
def plM (M : mMem) (but : Int) (i : Nat) : (Int → Int) × (Int → Int) × Int × Int := plS (M 5) (M 6) (M 2) (M 3) but i
theorem plM_s (M : mMem) (but : Int) (i : Nat) : plM M but (i + 1) = if (i : Int) = but then plM M but i else if (plM M but i).1 (M 5 i) = 0 ∧ 0 < (plM M but i).2.1 (M 6 i) then (fup (plM M but i).1 (M 5 i) (M 6 i), fup (plM M but i).2.1 (M 6 i) ((plM M but i).2.1 (M 6 i) - 1), (plM M but i).2.2.1 + 1, (plM M but i).2.2.2) else if (plM M but i).2.2.2 = -4 then ((plM M but i).1, (plM M but i).2.1, (plM M but i).2.2.1, (i : Int)) else plM M but i := rfl
theorem L_follow (d : Nat) {M m : mMem} (hc : Cht M 1) (e : ∀ k : Nat, 1 ≤ k → k ≤ 8 → m k = M k) (but : Int) {n : Nat} (hn : M 1 6 = n) : mN3 (d + 5) 96 [vr 0, vi but] m (fun m' => TrC m' M (plM M but n).1 (plM M but n).2.1 ∧ m' 9 7 = (plM M but n).2.2.1 ∧ m' 9 8 = (plM M but n).2.2.2 ∧ ∀ k : Nat, (k < 9 ∨ 17 ≤ k) → m' k = m k) := by
  have n8 : 0 ≤ M 1 6 ∧ M 1 6 ≤ 8 := hc.2.2.2.1
  refine mN3_i ⟨by decide, Nat.le_of_ble_eq_true rfl⟩ (fun K hK => ?_)
  have loop : ∀ (j i : Nat), i + j = n → ∀ m' : mMem, TrC m' M (plM M but i).1 (plM M but i).2.1 → m' 9 7 = (plM M but i).2.2.1 → m' 9 8 = (plM M but i).2.2.2 → (0 ≤ m' 9 7 ∧ m' 9 7 ≤ i) → (∀ k : Nat, (k < 9 ∨ 17 ≤ k) → m' k = m k) → K 30 [(0, vr 0), (1, vi but), (2, vi (i : Int))] [] (S0, m') := by
    intro j
    induction j with
    | zero =>
      intro i hi m' h1 h2 h3 h4 h5
      have e6 : m' 9 6 = M 1 6 := h1.2.2.2.2.2.2.2
      rw [show i = n by omega] at h1 h2 h3
      exact q_L_followPlan_30 hK _ _ m' (br_t (by omega) (rN_i ⟨h1, h2, h3, h5⟩))
    | succ j ih =>
      intro i hi m' h1 h2 h3 h4 h5
      have e6 : m' 9 6 = M 1 6 := h1.2.2.2.2.2.2.2
      have ew : w32 ((i : Int) + 1) = ((i + 1 : Nat) : Int) := by rw [w32_s (by omega) (by omega)]; omega
      have g5 : m' 13 i = M 5 i := h1.2.2.2.2.2.1 i (by omega) (by omega)
      have g6 : m' 14 i = M 6 i := h1.2.2.2.2.2.2.1 i (by omega) (by omega)
      have pr : (0 ≤ M 5 i ∧ M 5 i < 36) ∧ 1 ≤ M 6 i ∧ M 6 i ≤ 3 := hc.2.2.2.2.1 i (by omega) (by omega)
      have r1 : m' 10 (M 5 i) = (plM M but i).1 (M 5 i) := h1.2.1 _ pr.1.1 pr.1.2
      have r2 : m' 11 (M 6 i) = (plM M but i).2.1 (M 6 i) := h1.2.2.1 _ pr.2.1 pr.2.2
      refine q_L_followPlan_30 hK _ _ m' (br_f (by omega) ⟨fun q => ?_, fun q => ⟨_, R_takePlanned d m' 9 (by omega) i h1.1 (by omega), ?_⟩⟩)
      · rw [ew]
        refine ih (i + 1) (by omega) m' ?_ ?_ ?_ (by omega) h5
        · rw [plM_s, if_pos q]
          exact h1
        · rw [plM_s, if_pos q]
          exact h2
        · rw [plM_s, if_pos q]
          exact h3
      · rw [ew]
        unfold tpM
        show K 30 [(0, vr 0), (1, vi but), (2, vi ((i + 1 : Nat) : Int))] [] (S0, if m' 10 (m' 13 i) = 0 ∧ 0 < m' 11 (m' 14 i) then mupd (takeM m' 9 (m' 13 i) (m' 14 i)) 9 7 (w32 (m' 9 7 + 1)) else if m' 9 8 = -4 then mupd m' 9 8 i else m')
        rw [g5, g6, r1, r2]
        by_cases c : (plM M but i).1 (M 5 i) = 0 ∧ 0 < (plM M but i).2.1 (M 6 i)
        · rw [if_pos c]
          have tk := T_take h1 pr.1 pr.2 c.2
          have t9 : takeM m' 9 (M 5 i) (M 6 i) 9 = m' 9 := takeM_ne _ _ _ _ (by decide) (by decide) (by decide) (by decide)
          have wv : w32 (m' 9 7 + 1) = m' 9 7 + 1 := w32_s (by omega) (by omega)
          rw [wv]
          have q7 : mupd (takeM m' 9 (M 5 i) (M 6 i)) 9 7 (m' 9 7 + 1) 9 7 = m' 9 7 + 1 := by rw [mupd_at, fup_at]
          have qx : ∀ x : Int, x ≠ 7 → mupd (takeM m' 9 (M 5 i) (M 6 i)) 9 7 (m' 9 7 + 1) 9 x = m' 9 x := fun x hx => by rw [mupd_at, fup_ne _ _ hx, t9]
          have qk : ∀ k : Nat, k ≠ 9 → mupd (takeM m' 9 (M 5 i) (M 6 i)) 9 7 (m' 9 7 + 1) k = takeM m' 9 (M 5 i) (M 6 i) k := fun k hk => mupd_ne _ _ _ hk
          refine ih (i + 1) (by omega) _ ?_ ?_ ?_ (by rw [q7]; omega) ?_
          · rw [plM_s, if_neg q, if_pos c]
            exact T_eq tk (fun k a b => qk k (by omega)) (by rw [qx 5 (by decide), t9]) (by rw [qx 6 (by decide), t9])
          · rw [plM_s, if_neg q, if_pos c, q7, h2]
          · rw [plM_s, if_neg q, if_pos c, qx 8 (by decide), h3]
          · intro k hk
            rw [qk k (by omega), takeM_ne _ _ _ _ (by omega) (by omega) (by omega) (by omega), h5 k hk]
        · rw [if_neg c]
          by_cases c2 : m' 9 8 = -4
          · rw [if_pos c2]
            have qx : ∀ x : Int, x ≠ 8 → mupd m' 9 8 (i : Int) 9 x = m' 9 x := fun x hx => by rw [mupd_at, fup_ne _ _ hx]
            refine ih (i + 1) (by omega) _ ?_ ?_ ?_ (by rw [qx 7 (by decide)]; omega) (fun k hk => by rw [mupd_ne _ _ _ (by omega), h5 k hk])
            · rw [plM_s, if_neg q, if_neg c, if_pos (by rw [← h3]; exact c2)]
              exact T_eq h1 (fun k a b => mupd_ne _ _ _ (by omega)) (qx 5 (by decide)) (qx 6 (by decide))
            · rw [plM_s, if_neg q, if_neg c, if_pos (by rw [← h3]; exact c2), qx 7 (by decide), h2]
            · rw [plM_s, if_neg q, if_neg c, if_pos (by rw [← h3]; exact c2), mupd_at, fup_at]
          · rw [if_neg c2]
            refine ih (i + 1) (by omega) _ ?_ ?_ ?_ (by omega) h5
            · rw [plM_s, if_neg q, if_neg c, if_neg (by rw [← h3]; exact c2)]
              exact h1
            · rw [plM_s, if_neg q, if_neg c, if_neg (by rw [← h3]; exact c2)]
              exact h2
            · rw [plM_s, if_neg q, if_neg c, if_neg (by rw [← h3]; exact c2)]
              exact h3
  refine q_L_followPlan_0 hK but m ⟨_, R_copyFrom (d + 3) m 9 1 (by unfold cpP; omega), ?_⟩
  have tc := T_copy hc e
  have q8 : mupd (mupd (cpyM m 9 1) 9 7 0) 9 8 (-4) 9 8 = -4 := by rw [mupd_at, fup_at]
  have q7 : mupd (mupd (cpyM m 9 1) 9 7 0) 9 8 (-4) 9 7 = 0 := by rw [mupd_at, fup_ne _ _ (by decide), mupd_at, fup_at]
  refine loop n 0 (by omega) _ (T_eq tc (fun k a b => ?_) ?_ ?_) q7 q8 (by rw [q7]; omega) (fun k hk => ?_)
  · rw [mupd_ne _ _ _ (by omega), mupd_ne _ _ _ (by omega)]
  · rw [mupd_at, fup_ne _ _ (by decide), mupd_at, fup_ne _ _ (by decide)]
  · rw [mupd_at, fup_ne _ _ (by decide), mupd_at, fup_ne _ _ (by decide)]
  · rw [mupd_ne _ _ _ (by omega), mupd_ne _ _ _ (by omega), cpy_ne m (by omega)]
