/-! PURE PROOFS 57: luck, mean -/
def PairL (y1 y2 : Nat) (as : List mVal) (M : mMem) : Prop := ∃ v m1 m2, mR3 10 y1 (vr 0 :: as) (S0, M) (some (vl v), (S0, m1)) ∧ mR3 10 y2 (vr 53 :: as) (S0, m1) (some (vl v), (S0, m2)) ∧ Inv m2
theorem ask_pairL {y1 y2 : Nat} {as : List mVal} {M : mMem} {V : Int} (h : Inv M) (a : mL3 10 y1 (vr 0 :: as) M (fun v m => v = V ∧ FrL m M)) (b : ∀ m, FrL m M → mL3 10 y2 (vr 53 :: as) m (fun v m' => v = V ∧ FrM m' m)) : PairL y1 y2 as M := by
  obtain ⟨v, m, ⟨e, f⟩, r⟩ := a
  obtain ⟨v', m', ⟨e', f'⟩, r'⟩ := b m f
  rw [e] at r
  rw [e'] at r'
  exact ⟨V, m, m', r, r', Inv_fr h (Fr_trans (FrM_fr f') (FrL_fr f))⟩
theorem P_mean {M : mMem} (h : Inv M) (v x : Int) : PairL 72 171 [vi v, vi x] M := by
  have hc := h.1
  have n5 : 0 ≤ M 1 5 ∧ M 1 5 ≤ 5 := hc.2.1
  obtain ⟨k, hk⟩ : ∃ k : Nat, M 1 5 = k := ⟨(M 1 5).toNat, by omega⟩
  by_cases c : (0 ≤ v ∧ v ≤ 10) ∧ (x = 0 ∨ x = 1)
  · rcases ru_get M with big | ⟨cn, hcn, ok⟩
    · refine ask_pairL (V := -2) h ?_ (fun m hm => ?_)
      · exact mL3_i ⟨by decide, Nat.le_of_ble_eq_true rfl⟩ (fun K hK => q_L_mean_0 hK v x M (br_f (by omega) (br_f (by omega) ⟨_, _, R_isPart 8 M x, br_t (b2_n0.mpr c.2) (cI (L_run0 7 hc (FrL_refl M) big) (fun w m1 p => br_f (fun q => q p.1) (rL_i ⟨rfl, p.2⟩)))⟩)))
      · refine mL3_i ⟨by decide, Nat.le_of_ble_eq_true rfl⟩ (fun K hK => q_M_mean_0 hK v x m ⟨_, _, R_in 8 _ _ _ _, br_f (fun q => b2_0.mp q (by omega)) ⟨_, _, R_in 8 _ _ _ _, br_t (b2_n0.mpr (by omega)) (cI (M_run0 8 h.2.1 (fun i a b => by rw [(FrL_lo hm).2]) big) (fun w m1 p => ?_))⟩⟩)
        have p1 := p.1
        exact br_f (by omega) (rL_i ⟨rfl, p.2⟩)
    · refine ask_pairL h (mean_L hc c.1 c.2 hk hcn ok) (fun m hm => ?_)
      refine mL3_i ⟨by decide, Nat.le_of_ble_eq_true rfl⟩ (fun K hK => q_M_mean_0 hK v x m ⟨_, _, R_in 8 _ _ _ _, br_f (fun q => b2_0.mp q (by omega)) ⟨_, _, R_in 8 _ _ _ _, br_t (b2_n0.mpr (by omega)) (cI (M_run 8 h.2.1 (fun i a b => by rw [(FrL_lo hm).2]) hcn) (fun w m1 p => ?_))⟩⟩)
      have p1 := p.1
      have o1 := ok.1
      exact br_t (by omega) (cL (M_by 5 (x := x) h.2.1 hc c.1 (Or.inl rfl) hk p.2.2.1 hcn ok) (fun u m2 p2 => rL_i ⟨p2.1, FrM_trans p2.2 p.2.1⟩))
  · refine ⟨-1, M, M, ⟨⟨by decide, Nat.le_of_ble_eq_true rfl⟩, fun K hK => q_L_mean_0 hK v x M ⟨fun _ => mret_l rfl rfl, fun q => ⟨fun _ => mret_l rfl rfl, fun q1 => ⟨_, _, R_isPart 8 M x, br_f (fun q2 => c ⟨by omega, b2_n0.mp q2⟩) (mret_l rfl rfl)⟩⟩⟩⟩, ⟨⟨by decide, Nat.le_of_ble_eq_true rfl⟩, fun K hK => q_M_mean_0 hK v x M ⟨_, _, R_in 8 _ _ _ _, ⟨fun _ => mret_l rfl rfl, fun q => ⟨_, _, R_in 8 _ _ _ _, br_f (fun q2 => ?_) (mret_l rfl rfl)⟩⟩⟩⟩, h⟩
    have q := b2_n0.mp q
    have q2 := b2_n0.mp q2
    exact c ⟨q, by omega⟩
theorem P_luck {M : mMem} (h : Inv M) (v l x : Int) : PairL 71 170 [vi v, vi l, vi x] M := by
  have hc := h.1
  have n5 : 0 ≤ M 1 5 ∧ M 1 5 ≤ 5 := hc.2.1
  have p3 : M 54 39 = M 1 5 := (Pg0_of h.2.1).2.2.1
  obtain ⟨k, hk⟩ : ∃ k : Nat, M 1 5 = k := ⟨(M 1 5).toNat, by omega⟩
  by_cases c : (0 ≤ v ∧ v ≤ 10) ∧ (0 ≤ l ∧ l < M 1 5) ∧ (x = 0 ∨ x = 1)
  · rcases ru_get M with big | ⟨cn, hcn, ok⟩
    · refine ask_pairL (V := -2) h ?_ (fun m hm => ?_)
      · exact mL3_i ⟨by decide, Nat.le_of_ble_eq_true rfl⟩ (fun K hK => q_L_luck_0 hK v l x M (br_f (by omega) (br_f (by omega) ⟨_, _, R_isLaw 8 M l, br_f (fun q => b2_0.mp q c.2.1) ⟨_, _, R_isPart 8 M x, br_t (b2_n0.mpr c.2.2) (cI (L_run0 7 hc (FrL_refl M) big) (fun w m1 p => br_f (fun q => q p.1) (rL_i ⟨rfl, p.2⟩)))⟩⟩)))
      · have m39 : m 54 39 = M 1 5 := by rw [(FrL_lo hm).2, p3]
        refine mL3_i ⟨by decide, Nat.le_of_ble_eq_true rfl⟩ (fun K hK => q_M_luck_0 hK v l x m ⟨_, _, R_in 8 _ _ _ _, br_f (fun q => b2_0.mp q (by omega)) ⟨_, _, R_mIsLaw 7 m l (by rw [m39]; exact n5), br_f (fun q => b2_0.mp q (by rw [m39]; exact c.2.1)) ⟨_, _, R_in 8 _ _ _ _, br_t (b2_n0.mpr (by omega)) (cI (M_run0 8 h.2.1 (fun i a b => by rw [(FrL_lo hm).2]) big) (fun w m1 p => ?_))⟩⟩⟩)
        have p1 := p.1
        exact br_f (by omega) (rL_i ⟨rfl, p.2⟩)
    · refine ask_pairL h (luck_L hc c.1 c.2.1 c.2.2 hk hcn ok) (fun m hm => ?_)
      have m39 : m 54 39 = M 1 5 := by rw [(FrL_lo hm).2, p3]
      refine mL3_i ⟨by decide, Nat.le_of_ble_eq_true rfl⟩ (fun K hK => q_M_luck_0 hK v l x m ⟨_, _, R_in 8 _ _ _ _, br_f (fun q => b2_0.mp q (by omega)) ⟨_, _, R_mIsLaw 7 m l (by rw [m39]; exact n5), br_f (fun q => b2_0.mp q (by rw [m39]; exact c.2.1)) ⟨_, _, R_in 8 _ _ _ _, br_t (b2_n0.mpr (by omega)) (cI (M_run 8 h.2.1 (fun i a b => by rw [(FrL_lo hm).2]) hcn) (fun w m1 p => ?_))⟩⟩⟩)
      have p1 := p.1
      have o1 := ok.1
      exact br_t (by omega) (cL (M_by 5 (x := x) h.2.1 hc c.1 (Or.inr c.2.1) hk p.2.2.1 hcn ok) (fun u m2 p2 => rL_i ⟨p2.1, FrM_trans p2.2 p.2.1⟩))
  · refine ⟨-1, M, M, ⟨⟨by decide, Nat.le_of_ble_eq_true rfl⟩, fun K hK => q_L_luck_0 hK v l x M ⟨fun _ => mret_l rfl rfl, fun q => ⟨fun _ => mret_l rfl rfl, fun q1 => ⟨_, _, R_isLaw 8 M l, ⟨fun _ => mret_l rfl rfl, fun q2 => ⟨_, _, R_isPart 8 M x, br_f (fun q3 => c ⟨by omega, b2_n0.mp q2, b2_n0.mp q3⟩) (mret_l rfl rfl)⟩⟩⟩⟩⟩⟩, ⟨⟨by decide, Nat.le_of_ble_eq_true rfl⟩, fun K hK => q_M_luck_0 hK v l x M ⟨_, _, R_in 8 _ _ _ _, ⟨fun _ => mret_l rfl rfl, fun q => ⟨_, _, R_mIsLaw 7 M l (by rw [p3]; exact n5), ⟨fun _ => mret_l rfl rfl, fun q1 => ⟨_, _, R_in 8 _ _ _ _, br_f (fun q2 => ?_) (mret_l rfl rfl)⟩⟩⟩⟩⟩⟩, h⟩
    have q := b2_n0.mp q
    have q1 := b2_n0.mp q1
    have q2 := b2_n0.mp q2
    rw [p3] at q1
    exact c ⟨q, q1, by omega⟩
