/-! PURE PROOFS 35: runs, ahead, leave -/
def off (st : Int × Int) (code v : Int) : Int × Int := if v ≤ st.2 then st else (code, v)
def tld (st : Int × Int) (x : Int) : Int := if st.1 = -4 then st.1 else if x ≠ 0 then st.2 else st.1
def ChC (m : mMem) (st : Int × Int) : Prop := m 37 0 = st.1 ∧ m 37 1 = st.2
theorem C_begin (d : Nat) (m : mMem) (v : Int) : mN3 (d + 1) 21 [vr 37, vi v] m (fun m' => ChC m' (-4, v) ∧ ∀ k : Nat, k ≠ 37 → m' k = m k) := by
  refine mN3_i ⟨by decide, Nat.le_of_ble_eq_true rfl⟩ (fun K hK => q_O_begin_0 hK v m (rN_i ⟨⟨?_, ?_⟩, fun k hk => ?_⟩))
  · rw [mupd_at, fup_ne _ _ (by decide), mupd_at, fup_at]
  · rw [mupd_at, fup_at]
  · rw [mupd_ne _ _ _ hk, mupd_ne _ _ _ hk]
theorem C_offer (d : Nat) {m : mMem} {st : Int × Int} (h : ChC m st) (code v : Int) : mN3 (d + 1) 22 [vr 37, vi code, vi v] m (fun m' => ChC m' (off st code v) ∧ ∀ k : Nat, k ≠ 37 → m' k = m k) := by
  refine mN3_i ⟨by decide, Nat.le_of_ble_eq_true rfl⟩ (fun K hK => q_O_offer_0 hK code v m ⟨fun q => rN_i ⟨?_, fun k hk => rfl⟩, fun q => rN_i ⟨?_, fun k hk => ?_⟩⟩)
  · unfold off
    rw [if_pos (by rw [← h.2]; exact q)]
    exact h
  · unfold off
    rw [if_neg (by rw [← h.2]; exact q)]
    exact ⟨by rw [mupd_at, fup_ne _ _ (by decide), mupd_at, fup_at], by rw [mupd_at, fup_at]⟩
  · rw [mupd_ne _ _ _ hk, mupd_ne _ _ _ hk]
theorem C_told (d : Nat) {m : mMem} {st : Int × Int} (h : ChC m st) (x : Int) : mR3 (d + 1) 23 [vr 37, vi x] (S0, m) (some (vi (tld st x)), (S0, m)) := by
  refine ⟨⟨by decide, Nat.le_of_ble_eq_true rfl⟩, fun K hK => q_O_told_0 hK x m ?_⟩
  rw [h.1, h.2]
  unfold tld
  refine ⟨fun q => mret_i ?_ rfl, fun q => ⟨fun q2 => mret_i ?_ rfl, fun q2 => mret_i ?_ rfl⟩⟩
  · rw [if_pos q]
  · rw [if_neg q, if_pos q2]
  · rw [if_neg q, if_neg q2]
theorem G_more (d : Nat) (m : mMem) (v : Int) : mI3 (d + 1) 158 [vr 53, vi v] m (fun w m' => w = b2 (m 53 17 < v) ∧ m' 53 17 = (if v ≤ m 53 17 then m 53 17 else v) ∧ m' 54 = m 54 ∧ FrM m' m) := by
  refine mI3_i ⟨by decide, Nat.le_of_ble_eq_true rfl⟩ (fun K hK => q_M_isMore_0 hK v m ⟨fun q => q_M_isMore_13 hK v 0 m (br_t rfl (mBo_i (Or.inl rfl) (rI_i ⟨?_, ?_, ?_, ?_⟩))), fun q => q_M_isMore_13 hK v 1 m (br_f (by decide) (mBo_i (Or.inr rfl) (rI_i ⟨?_, ?_, ?_, ?_⟩)))⟩)
  · rw [b2_f (by omega)]
  · rw [mupd_at, fup_at, if_pos q]
  · exact mupd_ne _ _ _ (by decide)
  · exact FrM_53 (FrM_refl m) (by decide) (by decide) (by decide) (by decide)
  · rw [b2_t (by omega)]
  · rw [mupd_at, fup_at, if_neg q]
  · exact mupd_ne _ _ _ (by decide)
  · exact FrM_53 (FrM_refl m) (by decide) (by decide) (by decide) (by decide)
theorem FrL_lo {m M : mMem} (h : FrL m M) : (∀ k : Nat, 1 ≤ k → k ≤ 8 → m k = M k) ∧ m 54 = M 54 := ⟨fun k a b => h.1 k (by omega), h.1 54 (by omega)⟩
theorem P_runs {M : mMem} (h : Inv M) (x : Int) : PairI 63 156 [vi x] M := by
  have hc := h.1
  have n8 : 0 ≤ M 1 6 ∧ M 1 6 ≤ 8 := hc.2.2.2.1
  have n5 : 0 ≤ M 1 5 ∧ M 1 5 ≤ 5 := hc.2.1
  obtain ⟨n, hn⟩ : ∃ n : Nat, M 1 6 = n := ⟨(M 1 6).toNat, by omega⟩
  obtain ⟨k, hk⟩ : ∃ k : Nat, M 1 5 = k := ⟨(M 1 5).toNat, by omega⟩
  have k5 : k ≤ 5 := by omega
  by_cases c : 0 ≤ x ∧ x ≤ 3
  · refine ask_pair (V := if x = 0 then woS (M 4) (plM M (-4) n).1 k else if x = 1 then hbF (fun l => rdL (M 4) (plM M (-4) n).1 l) k else if x = 2 then (plM M (-4) n).2.2.1 else (plM M (-4) n).2.2.2) h ?_ (fun m hm => ?_)
    · refine mI3_i ⟨by decide, Nat.le_of_ble_eq_true rfl⟩ (fun K hK => q_L_runs_0 hK x M (br_f (by omega) (br_t c.2 (cN (L_follow 4 hc (fun _ _ _ => rfl) (-4) hn) (fun m' p => ?_)))))
      obtain ⟨p1, p2, p3, p4⟩ := p
      have fl : FrL m' M := FrL_row (FrL_refl M) (fun k a _ _ _ _ _ => p4 k a)
      refine ⟨⟨fun q => ⟨_, _, T_worth 6 p1 hk k5, rI_i ⟨?_, fl⟩⟩, fun q => ⟨_, _, T_held 6 p1 hk k5, rI_i ⟨?_, fl⟩⟩, fun q => rI_i ⟨?_, fl⟩, trivial⟩, fun q => rI_i ⟨?_, fl⟩⟩
      · rw [if_pos (by omega)]
      · rw [if_neg (by omega), if_pos (by omega)]
      · rw [if_neg (by omega), if_neg (by omega), if_pos (by omega), p2]
      · rw [if_neg (by omega), if_neg (by omega), if_neg (by omega), p3]
    · refine mI3_i ⟨by decide, Nat.le_of_ble_eq_true rfl⟩ (fun K hK => q_M_runs_0 hK x m ⟨_, _, R_in 8 _ _ _ _, br_t (b2_n0.mpr (by omega)) (cN (M_plan 7 h.2.1 hc (fun i _ _ => by rw [(FrL_lo hm).2]) (-4) hn) (fun m' p => ?_))⟩)
      obtain ⟨p1, p2, p3, _, p4⟩ := p
      refine ⟨fun q => ⟨fun q1 => ⟨fun q2 => rI_i ⟨?_, p4⟩, fun q2 => rI_i ⟨?_, p4⟩⟩, fun q1 => ⟨_, _, G_held 6 p1 (by omega) hc hk k5, rI_i ⟨?_, p4⟩⟩⟩, fun q => ⟨_, _, G_worth 6 p1 (by omega) hc hk k5, rI_i ⟨?_, p4⟩⟩⟩
      · rw [if_neg q, if_neg q1, if_neg q2, p3]
      · rw [if_neg q, if_neg q1, if_pos (Decidable.not_not.mp q2), p2]
      · rw [if_neg q, if_pos (Decidable.not_not.mp q1)]
      · rw [if_pos (Decidable.not_not.mp q)]
  · exact ⟨-1, M, M, ⟨⟨by decide, Nat.le_of_ble_eq_true rfl⟩, fun K hK => q_L_runs_0 hK x M ⟨fun _ => mret_i rfl rfl, fun q => br_f (by omega) (mret_i rfl rfl)⟩⟩, ⟨⟨by decide, Nat.le_of_ble_eq_true rfl⟩, fun K hK => q_M_runs_0 hK x M ⟨_, _, R_in 8 _ _ _ _, br_f (fun q => c (b2_n0.mp q)) (mret_i rfl rfl)⟩⟩, h⟩
theorem P_ahead {M : mMem} (h : Inv M) (x y : Int) : PairI 64 157 [vi x, vi y] M := by
  have hc := h.1
  have n8 : 0 ≤ M 1 6 ∧ M 1 6 ≤ 8 := hc.2.2.2.1
  obtain ⟨n, hn⟩ : ∃ n : Nat, M 1 6 = n := ⟨(M 1 6).toNat, by omega⟩
  by_cases c : 0 ≤ x ∧ x < 6 ∧ 0 ≤ y ∧ y < 6
  · have i1 : w32 (w32 (340 + w32 (6 * x)) + y) = 340 + (6 * x + y) := by
      rw [w32_s (z := 6 * x) (by omega) (by omega), w32_s (z := 340 + 6 * x) (by omega) (by omega), w32_s (by omega) (by omega)]
      omega
    refine ask_pair (V := (plM M (-4) n).1 (6 * x + y)) h ?_ (fun m hm => ?_)
    · refine mI3_i ⟨by decide, Nat.le_of_ble_eq_true rfl⟩ (fun K hK => q_L_ahead_0 hK x y M ⟨_, _, R_isCell 8 M x y, br_t (b2_n0.mpr c) (cN (L_follow 4 hc (fun _ _ _ => rfl) (-4) hn) (fun m' p => ?_))⟩)
      obtain ⟨p1, p2, p3, p4⟩ := p
      have fl : FrL m' M := FrL_row (FrL_refl M) (fun k a _ _ _ _ _ => p4 k a)
      exact ⟨_, _, R_place 8 m' (x := x) (y := y) (by omega) (by omega), mIn_i (by omega) (by omega) (rI_i ⟨p1.2.1 _ (by omega) (by omega), fl⟩)⟩
    · refine mI3_i ⟨by decide, Nat.le_of_ble_eq_true rfl⟩ (fun K hK => q_M_ahead_0 hK x y m ⟨_, _, R_mIsCell 7 m x y, br_t (b2_n0.mpr c) (cN (M_plan 7 h.2.1 hc (fun i _ _ => by rw [(FrL_lo hm).2]) (-4) hn) (fun m' p => ?_))⟩)
      obtain ⟨p1, p2, p3, _, p4⟩ := p
      rw [i1]
      exact mIn_i (by omega) (by omega) (rI_i ⟨p1.1 _ (by omega) (by omega), p4⟩)
  · exact ⟨-1, M, M, ⟨⟨by decide, Nat.le_of_ble_eq_true rfl⟩, fun K hK => q_L_ahead_0 hK x y M ⟨_, _, R_isCell 8 M x y, br_f (fun q => c (b2_n0.mp q)) (mret_i rfl rfl)⟩⟩, ⟨⟨by decide, Nat.le_of_ble_eq_true rfl⟩, fun K hK => q_M_ahead_0 hK x y M ⟨_, _, R_mIsCell 7 M x y, br_f (fun q => c (b2_n0.mp q)) (mret_i rfl rfl)⟩⟩, h⟩
