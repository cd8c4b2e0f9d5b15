/-! PURE PROOFS 22: work, unpick, moth, mend -/
theorem Pg_put {M : mMem} {b : Nat} {p t v : Int} (hb : b + 8 ≤ 54) (h : Pg M b p) (h5 : M b 5 ≤ 5) (h6 : M b 6 ≤ 8) (ht : 0 ≤ t ∧ t < 36) : Pg (mupd (putM M b t v) 54 (p + t) v) b p := by
  obtain ⟨g1, g2, g3, g4, g5, g6⟩ := h
  have e54 : mupd (putM M b t v) 54 (p + t) v 54 = fup (M 54) (p + t) v := by rw [mupd_at, put_ne _ _ _ _ (by omega) (by omega) (by omega)]
  have e1 : mupd (putM M b t v) 54 (p + t) v (b + 1) = fup (M (b + 1)) t v := by rw [mupd_ne _ _ _ (by omega), put_cel]
  have e : ∀ k, k ≠ 54 → k ≠ b + 1 → k ≠ b + 6 → k ≠ b + 7 → mupd (putM M b t v) 54 (p + t) v k = M k := fun k q0 q1 q6 q7 => by rw [mupd_ne _ _ _ q0, put_ne _ _ _ _ q1 q6 q7]
  generalize mupd (putM M b t v) 54 (p + t) v = m at e54 e1 e
  unfold Pg
  rw [e54, e1, e b (by omega) (by omega) (by omega) (by omega), e (b + 2) (by omega) (by omega) (by omega) (by omega), e (b + 3) (by omega) (by omega) (by omega) (by omega), e (b + 4) (by omega) (by omega) (by omega) (by omega), e (b + 5) (by omega) (by omega) (by omega) (by omega)]
  refine ⟨fun i h0 h1 => ?_, fun c h0 h1 => ?_, ?_, fun l x h0 h1 h2 h3 => ?_, ?_, fun i h0 h1 => ?_⟩
  · have g := g1 i h0 h1
    unfold fup
    split <;> split <;> omega
  · rw [fup_ne _ _ (by omega)]
    exact g2 c h0 h1
  · rw [fup_ne _ _ (by omega)]
    exact g3
  · rw [fup_ne _ _ (by omega)]
    exact g4 l x h0 h1 h2 h3
  · rw [fup_ne _ _ (by omega)]
    exact g5
  · rw [fup_ne _ _ (by omega), fup_ne _ _ (by omega), fup_ne _ _ (by omega)]
    exact g6 i h0 h1
theorem Pg_take {M : mMem} {b : Nat} {p t c : Int} (hb : b + 8 ≤ 54) (h : Pg M b p) (hc : Cht M b) (ht : 0 ≤ t ∧ t < 36) (hz : 1 ≤ c ∧ c ≤ 3) (hs : 0 < M (b + 2) c) : Pg (stM (takeM M b t c) p t c) b p := by
  obtain ⟨g1, g2, g3, g4, g5, g6⟩ := h
  have s9 : 0 ≤ M (b + 2) c ∧ M (b + 2) c ≤ 99 := hc.2.2.2.2.2 c hz.1 hz.2
  have h5 : 0 ≤ M b 5 ∧ M b 5 ≤ 5 := hc.2.1
  have h6 : 0 ≤ M b 6 ∧ M b 6 ≤ 8 := hc.2.2.2.1
  have w : w32 (M (b + 2) c - 1) = M (b + 2) c - 1 := w32_s (by omega) (by omega)
  have e54 : stM (takeM M b t c) p t c 54 = fup (fup (M 54) (p + t) c) (p + 35 + c) (M 54 (p + 35 + c) - 1) := by
    unfold stM
    rw [mupd_at, mupd_at, takeM_ne _ _ _ _ (by omega) (by omega) (by omega) (by omega)]
  have e0 : ∀ k, k ≠ 54 → stM (takeM M b t c) p t c k = takeM M b t c k := fun k q => by
    unfold stM
    rw [mupd_ne _ _ _ q, mupd_ne _ _ _ q]
  have e1 : stM (takeM M b t c) p t c (b + 1) = fup (M (b + 1)) t c := by rw [e0 _ (by omega), takeM_1]
  have e2 : stM (takeM M b t c) p t c (b + 2) = fup (M (b + 2)) c (M (b + 2) c - 1) := by rw [e0 _ (by omega), takeM_2, w]
  have e : ∀ k, k ≠ 54 → k ≠ b + 1 → k ≠ b + 2 → k ≠ b + 6 → k ≠ b + 7 → stM (takeM M b t c) p t c k = M k := fun k q0 q1 q2 q6 q7 => by rw [e0 k q0, takeM_ne _ _ _ _ q1 q2 q6 q7]
  generalize stM (takeM M b t c) p t c = m at e54 e1 e2 e
  unfold Pg
  rw [e54, e1, e2, e b (by omega) (by omega) (by omega) (by omega) (by omega), e (b + 3) (by omega) (by omega) (by omega) (by omega) (by omega), e (b + 4) (by omega) (by omega) (by omega) (by omega) (by omega), e (b + 5) (by omega) (by omega) (by omega) (by omega) (by omega)]
  refine ⟨fun i h0 h1 => ?_, fun c' h0 h1 => ?_, ?_, fun l x h0 h1 h2 h3 => ?_, ?_, fun i h0 h1 => ?_⟩
  · have g := g1 i h0 h1
    rw [fup_ne _ _ (by omega)]
    unfold fup
    split <;> split <;> omega
  · have g := g2 c' h0 h1
    by_cases q : c' = c
    · rw [q, fup_at, fup_at]
      rw [q] at g
      omega
    · rw [fup_ne _ _ (by omega), fup_ne _ _ (by omega), fup_ne _ _ q]
      exact g
  · rw [fup_ne _ _ (by omega), fup_ne _ _ (by omega)]
    exact g3
  · rw [fup_ne _ _ (by omega), fup_ne _ _ (by omega)]
    exact g4 l x h0 h1 h2 h3
  · rw [fup_ne _ _ (by omega), fup_ne _ _ (by omega)]
    exact g5
  · rw [fup_ne _ _ (by omega), fup_ne _ _ (by omega), fup_ne _ _ (by omega), fup_ne _ _ (by omega), fup_ne _ _ (by omega), fup_ne _ _ (by omega)]
    exact g6 i h0 h1
theorem Inv_put {M : mMem} (h : Inv M) {t v : Int} (ht : 0 ≤ t ∧ t < 36) (hv : 0 ≤ v ∧ v ≤ 4) : Inv (mupd (putM M 1 t v) 54 t v) := by
  have hp := Pg_put (M := M) (b := 1) (p := 0) (t := t) (v := v) (by decide) h.2.1 h.1.2.1.2 h.1.2.2.2.1.2 ht
  rw [Int.zero_add] at hp
  refine Inv_c1 h (Cht_eq (put_cht h.1 ht hv) (fun k h0 h1 => mupd_ne _ _ _ (by omega))) hp (fun k q0 q1 => ?_) (fun i q0 q1 => ?_)
  · rw [mupd_ne _ _ _ q1, put_ne _ _ _ _ (by omega) (by omega) (by omega)]
  · rw [mupd_at, fup_ne _ _ (by omega), put_ne _ _ _ _ (by omega) (by omega) (by omega)]
theorem Inv_take {M : mMem} (h : Inv M) {t c : Int} (ht : 0 ≤ t ∧ t < 36) (hz : 1 ≤ c ∧ c ≤ 3) (hs : 0 < M 3 c) : Inv (stM (takeM M 1 t c) 0 t c) := by
  have hp := Pg_take (M := M) (b := 1) (p := 0) (t := t) (c := c) (by decide) h.2.1 h.1 ht hz hs
  have e0 : ∀ k, k ≠ 54 → stM (takeM M 1 t c) 0 t c k = takeM M 1 t c k := fun k q => by
    unfold stM
    rw [mupd_ne _ _ _ q, mupd_ne _ _ _ q]
  refine Inv_c1 h (Cht_eq (takeM_cht h.1 ht hz hs) (fun k h0 h1 => e0 k (by omega))) hp (fun k q0 q1 => ?_) (fun i q0 q1 => ?_)
  · rw [e0 k q1, takeM_ne _ _ _ _ (by omega) (by omega) (by omega) (by omega)]
  · unfold stM
    rw [mupd_at, fup_ne _ _ (by omega), mupd_at, fup_ne _ _ (by omega), takeM_ne _ _ _ _ (by omega) (by omega) (by omega) (by omega)]
theorem R_works_t (d : Nat) (M : mMem) {x y z : Int} (n : Nat) (hx : 0 ≤ x ∧ x < 6 ∧ 0 ≤ y ∧ y < 6) (hz : 1 ≤ z ∧ z ≤ 3) (hs : -20 ≤ M 54 (0 + 35 + z) ∧ M 54 (0 + 35 + z) ≤ 79) (hq : M 54 (0 + (6 * x + y)) = 0 ∧ 0 < M 54 (0 + 35 + z) + 20) (hn : stM M 0 (6 * x + y) z 54 (0 + 39) = n) (h5 : n ≤ 5) (hL : lawOK (pgL (stM M 0 (6 * x + y) z) 0) n) : mR3 (d + 4) 149 [vr 53, vi x, vi y, vi z] (S0, M) (some (vi (woS (pgL (stM M 0 (6 * x + y) z) 0) (pg (stM M 0 (6 * x + y) z) 0) n)), (S0, stM M 0 (6 * x + y) z)) := by
  have e : w32 (w32 (6 * x) + y) = 6 * x + y := by rw [w32_s (z := 6 * x) (by omega) (by omega), w32_s (by omega) (by omega)]
  refine ⟨⟨by decide, Nat.le_of_ble_eq_true rfl⟩, fun K hK => q_M_works_0 hK x y z M ⟨_, _, R_mIsCell (d + 1) M x y, br_f (fun q => b2_0.mp q hx) ⟨_, _, R_mIsColour (d + 1) M z, br_t (b2_n0.mpr hz) ?_⟩⟩⟩
  rw [e]
  have g := R_stitchesOn (d + 2) M 0 (6 * x + y) z (by omega) (by omega) hz hs
  rw [if_pos hq] at g
  exact ⟨_, _, g, br_f (fun q => b2_0.mp q hq) ⟨_, _, R_worthOn d _ 0 n (by omega) hn h5 hL, mret_i rfl rfl⟩⟩
theorem R_works_s (d : Nat) (M : mMem) {x y z : Int} (hx : 0 ≤ x ∧ x < 6 ∧ 0 ≤ y ∧ y < 6) (hz : 1 ≤ z ∧ z ≤ 3) (hs : -20 ≤ M 54 (0 + 35 + z) ∧ M 54 (0 + 35 + z) ≤ 79) (hq : ¬ (M 54 (0 + (6 * x + y)) = 0 ∧ 0 < M 54 (0 + 35 + z) + 20)) : mR3 (d + 4) 149 [vr 53, vi x, vi y, vi z] (S0, M) (some (vi (-2)), (S0, M)) := by
  have e : w32 (w32 (6 * x) + y) = 6 * x + y := by rw [w32_s (z := 6 * x) (by omega) (by omega), w32_s (by omega) (by omega)]
  refine ⟨⟨by decide, Nat.le_of_ble_eq_true rfl⟩, fun K hK => q_M_works_0 hK x y z M ⟨_, _, R_mIsCell (d + 1) M x y, br_f (fun q => b2_0.mp q hx) ⟨_, _, R_mIsColour (d + 1) M z, br_t (b2_n0.mpr hz) ?_⟩⟩⟩
  rw [e]
  have g := R_stitchesOn (d + 2) M 0 (6 * x + y) z (by omega) (by omega) hz hs
  rw [if_neg hq] at g
  exact ⟨_, _, g, br_t (b2_f hq) (mret_i rfl rfl)⟩
theorem R_works_b (d : Nat) (M : mMem) {x y z : Int} (hx : ¬ ((0 ≤ x ∧ x < 6 ∧ 0 ≤ y ∧ y < 6) ∧ 1 ≤ z ∧ z ≤ 3)) : mR3 (d + 4) 149 [vr 53, vi x, vi y, vi z] (S0, M) (some (vi (-1)), (S0, M)) :=
  ⟨⟨by decide, Nat.le_of_ble_eq_true rfl⟩, fun K hK => q_M_works_0 hK x y z M ⟨_, _, R_mIsCell (d + 1) M x y, ⟨fun _ => mret_i rfl rfl, fun q => ⟨_, _, R_mIsColour (d + 1) M z, br_f (fun q2 => hx ⟨b2_n0.mp q, b2_n0.mp q2⟩) (mret_i rfl rfl)⟩⟩⟩⟩
theorem P_work {M : mMem} (h : Inv M) (x y z : Int) : PairI 59 150 [vi x, vi y, vi z] M := by
  have hc := h.1
  have hp := h.2.1
  by_cases c : (0 ≤ x ∧ x < 6 ∧ 0 ≤ y ∧ y < 6) ∧ 1 ≤ z ∧ z ≤ 3
  · have ht : 0 ≤ 6 * x + y ∧ 6 * x + y < 36 := by omega
    have g1 : M 54 (0 + (6 * x + y)) = M 2 (6 * x + y) := hp.1 _ ht.1 ht.2
    have g2 : M 54 (0 + 35 + z) + 20 = M 3 z := hp.2.1 z c.2.1 c.2.2
    have s9 : 0 ≤ M 3 z ∧ M 3 z ≤ 99 := hc.2.2.2.2.2 z c.2.1 c.2.2
    by_cases c2 : M 2 (6 * x + y) = 0 ∧ 0 < M 3 z
    · have b5 : 0 ≤ M 1 5 ∧ M 1 5 ≤ 5 := hc.2.1
      obtain ⟨n, hn⟩ : ∃ n : Nat, M 1 5 = n := ⟨(M 1 5).toNat, by omega⟩
      have tc := takeM_cht (t := 6 * x + y) (c := z) hc ht c.2 c2.2
      have t0 : takeM M 1 (6 * x + y) z 1 = M 1 := takeM_ne _ _ _ _ (by decide) (by decide) (by decide) (by decide)
      have t54 : takeM M 1 (6 * x + y) z 54 = M 54 := takeM_ne _ _ _ _ (by decide) (by decide) (by decide) (by decide)
      have n1 : takeM M 1 (6 * x + y) z 1 5 = n := by rw [t0, hn]
      have hL : lawOK (takeM M 1 (6 * x + y) z (1 + 3)) n := by
        have q := tc.2.2.1
        rw [n1] at q
        exact q
      have a1 : mR3 10 59 [vr 0, vi x, vi y, vi z] (S0, M) (some (vi (woS (takeM M 1 (6 * x + y) z (1 + 3)) (takeM M 1 (6 * x + y) z (1 + 1)) n)), (S0, takeM M 1 (6 * x + y) z)) := by
        refine ⟨⟨by decide, Nat.le_of_ble_eq_true rfl⟩, fun K hK => q_L_work_0 hK x y z M ⟨_, _, R_isCell 8 M x y, br_f (fun q => b2_0.mp q c.1) ⟨_, _, R_isColour 8 M z, br_t (b2_n0.mpr c.2) ⟨_, _, R_place 8 M (x := x) (y := y) (by omega) (by omega), _, _, R_canTake 8 M 1 (by omega) (6 * x + y) z ht c.2, br_t (b2_n0.mpr c2) ⟨_, R_take 6 M 1 (by omega) (6 * x + y) z ht c.2 hc.1.1, _, _, R_worth 6 (takeM M 1 (6 * x + y) z) 1 (by omega) n n1 (by omega) tc.1 hL, mret_i rfl rfl⟩⟩⟩⟩⟩
      have iv := Inv_take h ht c.2 c2.2
      have pw := Pg_wo iv.2.1 (n := n) (by
        unfold stM
        rw [mupd_ne _ _ _ (by decide), mupd_ne _ _ _ (by decide), n1])
      have pl := Pg_law iv.2.1 iv.1
      have k5 : stM (takeM M 1 (6 * x + y) z) 0 (6 * x + y) z 1 5 = n := by
        unfold stM
        rw [mupd_ne _ _ _ (by decide), mupd_ne _ _ _ (by decide), n1]
      have k4 : stM (takeM M 1 (6 * x + y) z) 0 (6 * x + y) z (1 + 3) = takeM M 1 (6 * x + y) z (1 + 3) := by
        unfold stM
        rw [mupd_ne _ _ _ (by decide), mupd_ne _ _ _ (by decide)]
      have k2 : stM (takeM M 1 (6 * x + y) z) 0 (6 * x + y) z (1 + 1) = takeM M 1 (6 * x + y) z (1 + 1) := by
        unfold stM
        rw [mupd_ne _ _ _ (by decide), mupd_ne _ _ _ (by decide)]
      rw [k5] at pl
      rw [k4, k2] at pw
      have k39 : stM (takeM M 1 (6 * x + y) z) 0 (6 * x + y) z 54 (0 + 39) = n := by
        have q := iv.2.1.2.2.1
        rw [q, k5]
      have a2 : mR3 10 150 [vr 53, vi x, vi y, vi z] (S0, takeM M 1 (6 * x + y) z) (some (vi (woS (takeM M 1 (6 * x + y) z (1 + 3)) (takeM M 1 (6 * x + y) z (1 + 1)) n)), (S0, stM (takeM M 1 (6 * x + y) z) 0 (6 * x + y) z)) := by
        refine ⟨⟨by decide, Nat.le_of_ble_eq_true rfl⟩, fun K hK => q_M_work_0 hK x y z _ ⟨_, _, R_works_t 5 _ n c.1 c.2 (by rw [t54]; omega) (by rw [t54]; omega) k39 (by omega) pl, mret_i pw rfl⟩⟩
      exact ⟨_, _, _, a1, a2, iv⟩
    · refine ⟨-2, M, M, ⟨⟨by decide, Nat.le_of_ble_eq_true rfl⟩, fun K hK => q_L_work_0 hK x y z M ⟨_, _, R_isCell 8 M x y, br_f (fun q => b2_0.mp q c.1) ⟨_, _, R_isColour 8 M z, br_t (b2_n0.mpr c.2) ⟨_, _, R_place 8 M (x := x) (y := y) (by omega) (by omega), _, _, R_canTake 8 M 1 (by omega) (6 * x + y) z ht c.2, br_f (fun q => c2 (b2_n0.mp q)) (mret_i rfl rfl)⟩⟩⟩⟩, ⟨⟨by decide, Nat.le_of_ble_eq_true rfl⟩, fun K hK => q_M_work_0 hK x y z M ⟨_, _, R_works_s 5 M c.1 c.2 (by omega) (by omega), mret_i rfl rfl⟩⟩, h⟩
  · refine ⟨-1, M, M, ⟨⟨by decide, Nat.le_of_ble_eq_true rfl⟩, fun K hK => q_L_work_0 hK x y z M ⟨_, _, R_isCell 8 M x y, ⟨fun _ => mret_i rfl rfl, fun q => ⟨_, _, R_isColour 8 M z, br_f (fun q2 => c ⟨b2_n0.mp q, b2_n0.mp q2⟩) (mret_i rfl rfl)⟩⟩⟩⟩, ⟨⟨by decide, Nat.le_of_ble_eq_true rfl⟩, fun K hK => q_M_work_0 hK x y z M ⟨_, _, R_works_b 5 M c, mret_i rfl rfl⟩⟩, h⟩
theorem P_unpick {M : mMem} (h : Inv M) (x y : Int) : PairI 60 151 [vi x, vi y] M := by
  have hc := h.1
  have hp := Pg0_of h.2.1
  by_cases c : 0 ≤ x ∧ x < 6 ∧ 0 ≤ y ∧ y < 6
  · have ht : 0 ≤ 6 * x + y ∧ 6 * x + y < 36 := by omega
    have e : w32 (w32 (6 * x) + y) = 6 * x + y := by rw [w32_s (z := 6 * x) (by omega) (by omega), w32_s (by omega) (by omega)]
    have g1 : M 54 (6 * x + y) = M 2 (6 * x + y) := hp.1 _ ht.1 ht.2
    have r1 : 0 ≤ M 2 (6 * x + y) ∧ M 2 (6 * x + y) ≤ 4 := hc.1.1 _ ht.1 ht.2
    have p54 : ∀ v, putM M 1 (6 * x + y) v 54 = M 54 := fun v => put_ne _ _ _ _ (by decide) (by decide) (by decide)
    by_cases c2 : 1 ≤ M 2 (6 * x + y) ∧ M 2 (6 * x + y) ≤ 3
    · refine ⟨M 2 (6 * x + y), _, _, ⟨⟨by decide, Nat.le_of_ble_eq_true rfl⟩, fun K hK => q_L_unpick_0 hK x y M ⟨_, _, R_isCell 8 M x y, br_t (b2_n0.mpr c) ⟨_, _, R_place 8 M (x := x) (y := y) (by omega) (by omega), mIn_i (by omega) (by omega) ⟨_, _, R_isColour 8 M _, br_t (b2_n0.mpr c2) ⟨_, R_put 7 M 1 (by omega) (6 * x + y) 0 ht (by omega) hc.1.1, mret_i rfl rfl⟩⟩⟩⟩⟩, ⟨⟨by decide, Nat.le_of_ble_eq_true rfl⟩, fun K hK => q_M_unpick_0 hK x y _ ⟨_, _, R_mIsCell 7 _ x y, br_t (b2_n0.mpr c) ?_⟩⟩, Inv_put h ht (show (0 : Int) ≤ 0 ∧ (0 : Int) ≤ 4 by omega)⟩
      rw [e, p54, g1]
      refine mIn_i (by omega) (by omega) ⟨_, _, R_mIsColour 7 _ _, br_f (fun q => b2_0.mp q c2) ⟨_, _, R_puts 8 _ 1 (6 * x + y) 0 0 (fun _ => ⟨by omega, by omega⟩), ?_⟩⟩
      rw [if_pos (by decide), if_pos (by decide), p54, g1, Int.add_zero, w32_s (by omega) (by omega)]
      exact mret_i rfl rfl
    · refine ⟨-2, M, M, ⟨⟨by decide, Nat.le_of_ble_eq_true rfl⟩, fun K hK => q_L_unpick_0 hK x y M ⟨_, _, R_isCell 8 M x y, br_t (b2_n0.mpr c) ⟨_, _, R_place 8 M (x := x) (y := y) (by omega) (by omega), mIn_i (by omega) (by omega) ⟨_, _, R_isColour 8 M _, br_f (fun q => c2 (b2_n0.mp q)) (mret_i rfl rfl)⟩⟩⟩⟩, ⟨⟨by decide, Nat.le_of_ble_eq_true rfl⟩, fun K hK => q_M_unpick_0 hK x y _ ⟨_, _, R_mIsCell 7 _ x y, br_t (b2_n0.mpr c) ?_⟩⟩, h⟩
      rw [e, g1]
      exact mIn_i (by omega) (by omega) ⟨_, _, R_mIsColour 7 _ _, br_t (b2_f c2) (mret_i rfl rfl)⟩
  · exact ⟨-1, M, M, ⟨⟨by decide, Nat.le_of_ble_eq_true rfl⟩, fun K hK => q_L_unpick_0 hK x y M ⟨_, _, R_isCell 8 M x y, br_f (fun q => c (b2_n0.mp q)) (mret_i rfl rfl)⟩⟩, ⟨⟨by decide, Nat.le_of_ble_eq_true rfl⟩, fun K hK => q_M_unpick_0 hK x y M ⟨_, _, R_mIsCell 7 M x y, br_f (fun q => c (b2_n0.mp q)) (mret_i rfl rfl)⟩⟩, h⟩
theorem P_moth {M : mMem} (h : Inv M) (x y : Int) : PairI 61 152 [vi x, vi y] M := by
  have hc := h.1
  have hp := Pg0_of h.2.1
  by_cases c : 0 ≤ x ∧ x < 6 ∧ 0 ≤ y ∧ y < 6
  · have ht : 0 ≤ 6 * x + y ∧ 6 * x + y < 36 := by omega
    have e : w32 (w32 (6 * x) + y) = 6 * x + y := by rw [w32_s (z := 6 * x) (by omega) (by omega), w32_s (by omega) (by omega)]
    have g1 : M 54 (6 * x + y) = M 2 (6 * x + y) := hp.1 _ ht.1 ht.2
    have r1 : 0 ≤ M 2 (6 * x + y) ∧ M 2 (6 * x + y) ≤ 4 := hc.1.1 _ ht.1 ht.2
    have p54 : ∀ v, putM M 1 (6 * x + y) v 54 = M 54 := fun v => put_ne _ _ _ _ (by decide) (by decide) (by decide)
    by_cases c2 : M 2 (6 * x + y) ≠ 4
    · refine ⟨M 2 (6 * x + y), _, _, ⟨⟨by decide, Nat.le_of_ble_eq_true rfl⟩, fun K hK => q_L_moth_0 hK x y M ⟨_, _, R_isCell 8 M x y, br_t (b2_n0.mpr c) ⟨_, _, R_place 8 M (x := x) (y := y) (by omega) (by omega), mIn_i (by omega) (by omega) (br_t c2 ⟨_, R_put 7 M 1 (by omega) (6 * x + y) 4 ht (by omega) hc.1.1, mret_i rfl rfl⟩)⟩⟩⟩, ⟨⟨by decide, Nat.le_of_ble_eq_true rfl⟩, fun K hK => q_M_moth_0 hK x y _ ⟨_, _, R_mIsCell 7 _ x y, br_t (b2_n0.mpr c) ?_⟩⟩, Inv_put h ht (show (0 : Int) ≤ 4 ∧ (4 : Int) ≤ 4 by omega)⟩
      rw [e, p54, g1]
      refine mIn_i (by omega) (by omega) (br_f c2 ⟨_, _, R_puts 8 _ 1 (6 * x + y) 4 0 (fun _ => ⟨by omega, by omega⟩), ?_⟩)
      rw [if_pos (by decide), if_pos (by decide), p54, g1, Int.add_zero, w32_s (by omega) (by omega)]
      exact mret_i rfl rfl
    · refine ⟨-2, M, M, ⟨⟨by decide, Nat.le_of_ble_eq_true rfl⟩, fun K hK => q_L_moth_0 hK x y M ⟨_, _, R_isCell 8 M x y, br_t (b2_n0.mpr c) ⟨_, _, R_place 8 M (x := x) (y := y) (by omega) (by omega), mIn_i (by omega) (by omega) (br_f c2 (mret_i rfl rfl))⟩⟩⟩, ⟨⟨by decide, Nat.le_of_ble_eq_true rfl⟩, fun K hK => q_M_moth_0 hK x y _ ⟨_, _, R_mIsCell 7 _ x y, br_t (b2_n0.mpr c) ?_⟩⟩, h⟩
      rw [e, g1]
      exact mIn_i (by omega) (by omega) (br_t (by omega) (mret_i rfl rfl))
  · exact ⟨-1, M, M, ⟨⟨by decide, Nat.le_of_ble_eq_true rfl⟩, fun K hK => q_L_moth_0 hK x y M ⟨_, _, R_isCell 8 M x y, br_f (fun q => c (b2_n0.mp q)) (mret_i rfl rfl)⟩⟩, ⟨⟨by decide, Nat.le_of_ble_eq_true rfl⟩, fun K hK => q_M_moth_0 hK x y M ⟨_, _, R_mIsCell 7 M x y, br_f (fun q => c (b2_n0.mp q)) (mret_i rfl rfl)⟩⟩, h⟩
theorem P_mend {M : mMem} (h : Inv M) (x y : Int) : PairI 62 153 [vi x, vi y] M := by
  have hc := h.1
  have hp := Pg0_of h.2.1
  by_cases c : 0 ≤ x ∧ x < 6 ∧ 0 ≤ y ∧ y < 6
  · have ht : 0 ≤ 6 * x + y ∧ 6 * x + y < 36 := by omega
    have e : w32 (w32 (6 * x) + y) = 6 * x + y := by rw [w32_s (z := 6 * x) (by omega) (by omega), w32_s (by omega) (by omega)]
    have g1 : M 54 (6 * x + y) = M 2 (6 * x + y) := hp.1 _ ht.1 ht.2
    have p54 : ∀ v, putM M 1 (6 * x + y) v 54 = M 54 := fun v => put_ne _ _ _ _ (by decide) (by decide) (by decide)
    by_cases c2 : M 2 (6 * x + y) = 4
    · have iv := Inv_put h ht (show (0 : Int) ≤ 0 ∧ (0 : Int) ≤ 4 by omega)
      refine ⟨cO (putM M 1 (6 * x + y) 0 (1 + 1)) 4 36, _, _, ⟨⟨by decide, Nat.le_of_ble_eq_true rfl⟩, fun K hK => q_L_mend_0 hK x y M ⟨_, _, R_isCell 8 M x y, br_t (b2_n0.mpr c) ⟨_, _, R_place 8 M (x := x) (y := y) (by omega) (by omega), mIn_i (by omega) (by omega) (br_t c2 ⟨_, R_put 7 M 1 (by omega) (6 * x + y) 0 ht (by omega) hc.1.1, _, _, R_cellsOf 8 _ 1 (by omega) 4, mret_i rfl rfl⟩)⟩⟩⟩, ⟨⟨by decide, Nat.le_of_ble_eq_true rfl⟩, fun K hK => q_M_mend_0 hK x y _ ⟨_, _, R_mIsCell 7 _ x y, br_t (b2_n0.mpr c) ?_⟩⟩, iv⟩
      rw [e, p54, g1]
      refine mIn_i (by omega) (by omega) (br_t c2 (mIn_i (by omega) (by omega) ⟨_, _, R_holesOn 8 _ 0 (by omega), mret_i ?_ rfl⟩))
      refine cO_cong (fun i h0 h1 => ?_)
      have g := iv.2.1.1 i h0 h1
      exact g.trans (congrFun (mupd_ne _ _ _ (by decide)) i)
    · refine ⟨-2, M, M, ⟨⟨by decide, Nat.le_of_ble_eq_true rfl⟩, fun K hK => q_L_mend_0 hK x y M ⟨_, _, R_isCell 8 M x y, br_t (b2_n0.mpr c) ⟨_, _, R_place 8 M (x := x) (y := y) (by omega) (by omega), mIn_i (by omega) (by omega) (br_f c2 (mret_i rfl rfl))⟩⟩⟩, ⟨⟨by decide, Nat.le_of_ble_eq_true rfl⟩, fun K hK => q_M_mend_0 hK x y _ ⟨_, _, R_mIsCell 7 _ x y, br_t (b2_n0.mpr c) ?_⟩⟩, h⟩
      rw [e, g1]
      exact mIn_i (by omega) (by omega) (br_f c2 (mret_i rfl rfl))
  · exact ⟨-1, M, M, ⟨⟨by decide, Nat.le_of_ble_eq_true rfl⟩, fun K hK => q_L_mend_0 hK x y M ⟨_, _, R_isCell 8 M x y, br_f (fun q => c (b2_n0.mp q)) (mret_i rfl rfl)⟩⟩, ⟨⟨by decide, Nat.le_of_ble_eq_true rfl⟩, fun K hK => q_M_mend_0 hK x y M ⟨_, _, R_mIsCell 7 M x y, br_f (fun q => c (b2_n0.mp q)) (mret_i rfl rfl)⟩⟩, h⟩
