/-! PURE PROOFS 36: leave -/
/-- the choice after i offers -/
def chS (o : Nat → Int × Int) (v : Int) : Nat → Int × Int
  | 0 => (-4, v)
  | i + 1 => off (chS o v i) (o i).1 (o i).2
theorem chS_s (o : Nat → Int × Int) (v : Int) (i : Nat) : chS o v (i + 1) = off (chS o v i) (o i).1 (o i).2 := rfl
/-- which and most, as the other keeps them -/
def WhM (m : mMem) (w : Int) (st : Int × Int) : Prop := w = st.1 ∧ m 53 17 = st.2
theorem W_more {m m' : mMem} {w v x code : Int} {st : Int × Int} (h : WhM m w st) (hx : x = b2 (m 53 17 < v)) (h7 : m' 53 17 = (if v ≤ m 53 17 then m 53 17 else v)) : WhM m' (if x = 0 then w else code) (off st code v) := by
  unfold off
  rw [← h.2]
  by_cases q : v ≤ m 53 17
  · rw [if_pos q] at h7 ⊢
    rw [hx, b2_f (by omega), if_pos rfl]
    exact ⟨h.1, by rw [h7, h.2]⟩
  · rw [if_neg q] at h7 ⊢
    rw [hx, b2_t (by omega), if_neg (by decide)]
    exact ⟨rfl, h7⟩
theorem W_told {m : mMem} {w : Int} {st : Int × Int} (h : WhM m w st) (x : Int) : (if w = -4 then w else if x ≠ 0 then m 53 17 else w) = tld st x := by
  unfold tld
  rw [h.1, h.2]
theorem P_leave {M : mMem} (h : Inv M) (x : Int) : PairI 70 166 [vi x] M := by
  have hc := h.1
  have n8 : 0 ≤ M 1 6 ∧ M 1 6 ≤ 8 := hc.2.2.2.1
  have n5 : 0 ≤ M 1 5 ∧ M 1 5 ≤ 5 := hc.2.1
  have p6 : M 54 60 = M 1 6 := (Pg0_of h.2.1).2.2.2.2.1
  obtain ⟨n, hn⟩ : ∃ n : Nat, M 1 6 = n := ⟨(M 1 6).toNat, by omega⟩
  obtain ⟨k, hk⟩ : ∃ k : Nat, M 1 5 = k := ⟨(M 1 5).toNat, by omega⟩
  have k5 : k ≤ 5 := by omega
  have nn : n ≤ 8 := by omega
  by_cases c : x = 0 ∨ x = 1
  · obtain ⟨o, ho⟩ : ∃ o : Nat → Int × Int, o = fun (i : Nat) => ((i : Int), woS (M 4) (plM M (i : Int) n).1 k) := ⟨_, rfl⟩
    refine ask_pair (V := tld (chS o (woS (M 4) (plM M (-4) n).1 k) n) x) h ?_ (fun m hm => ?_)
    · refine mI3_i ⟨by decide, Nat.le_of_ble_eq_true rfl⟩ (fun K hK => ?_)
      have loop : ∀ (j i : Nat), i + j = n → ∀ m' : mMem, ChC m' (chS o (woS (M 4) (plM M (-4) n).1 k) i) → FrL m' M → K 31 [(0, vr 0), (1, vi x), (2, vi (i : Int))] [] (S0, m') := by
        intro j
        induction j with
        | zero =>
          intro i hi m' h1 h2
          have e6 : m' 1 6 = n := by rw [(FrL_lo h2).1 1 (by decide) (by decide), hn]
          rw [show i = n by omega] at h1 ⊢
          exact q_L_leave_31 hK _ _ m' (br_t (by rw [e6]; exact Int.le_refl _) ⟨_, _, C_told 8 h1 x, rI_i ⟨rfl, h2⟩⟩)
        | succ j ih =>
          intro i hi m' h1 h2
          have e6 : m' 1 6 = n := by rw [(FrL_lo h2).1 1 (by decide) (by decide), hn]
          have ew : w32 ((i : Int) + 1) = ((i + 1 : Nat) : Int) := by rw [w32_s (by omega) (by omega)]; omega
          refine q_L_leave_31 hK _ _ m' (br_f (by rw [e6]; omega) (cN (L_follow 4 hc (fun k a b => (FrL_lo h2).1 k a b) (i : Int) hn) (fun m1 p => ?_)))
          obtain ⟨p1, _, _, p4⟩ := p
          have c1 : ChC m1 (chS o (woS (M 4) (plM M (-4) n).1 k) i) := by
            unfold ChC
            rw [p4 37 (by omega)]
            exact h1
          refine ⟨_, _, T_worth 6 p1 hk k5, cN (C_offer 8 c1 _ _) (fun m2 p => ?_)⟩
          rw [ew]
          refine ih (i + 1) (by omega) m2 ?_ (FrL_row (FrL_row h2 (fun k a _ _ _ _ _ => p4 k a)) (fun k _ a _ _ _ _ => p.2 k a))
          rw [chS_s, ho]
          rw [ho] at p
          exact p.1
      refine q_L_leave_0 hK x M ⟨_, _, R_isPart 8 M x, br_t (b2_n0.mpr c) (cN (L_follow 4 hc (fun _ _ _ => rfl) (-4) hn) (fun m1 p => ?_))⟩
      obtain ⟨p1, _, _, p4⟩ := p
      exact ⟨_, _, T_worth 6 p1 hk k5, cN (C_begin 8 m1 _) (fun m2 p => loop n 0 (by omega) m2 p.1 (FrL_row (FrL_row (FrL_refl M) (fun k a _ _ _ _ _ => p4 k a)) (fun k _ a _ _ _ _ => p.2 k a)))⟩
    · refine mI3_i ⟨by decide, Nat.le_of_ble_eq_true rfl⟩ (fun K hK => ?_)
      have m54 := (FrL_lo hm).2
      have loop : ∀ (j i : Nat), i + j = n → ∀ (m' : mMem) (w : Int), WhM m' w (chS o (woS (M 4) (plM M (-4) n).1 k) i) → FrM m' m → K 34 [(0, vr 53), (1, vi x), (2, vi w), (3, vi (i : Int))] [] (S0, m') := by
        intro j
        induction j with
        | zero =>
          intro i hi m' w h1 h2
          have e6 : m' 54 60 = n := by rw [h2.2.2.2.2.2 60 (by decide) (by decide), m54, p6, hn]
          rw [show i = n by omega] at h1 ⊢
          have t := W_told h1 x
          refine q_M_leave_34 hK _ _ _ m' (br_t (by rw [e6]; exact Int.le_refl _) ⟨fun q => rI_i ⟨?_, h2⟩, fun q => ⟨fun q2 => rI_i ⟨?_, h2⟩, fun q2 => rI_i ⟨?_, h2⟩⟩⟩)
          · rw [← t, if_pos q]
          · rw [← t, if_neg q, if_pos q2]
          · rw [← t, if_neg q, if_neg q2]
        | succ j ih =>
          intro i hi m' w h1 h2
          have e6 : m' 54 60 = n := by rw [h2.2.2.2.2.2 60 (by decide) (by decide), m54, p6, hn]
          have ew : w32 ((i : Int) + 1) = ((i + 1 : Nat) : Int) := by rw [w32_s (by omega) (by omega)]; omega
          refine q_M_leave_34 hK _ _ _ m' (br_f (by rw [e6]; omega) (cN (M_plan 7 h.2.1 hc (fun a q0 q1 => by rw [h2.2.2.2.2.2 a q0 (by omega), m54]) (i : Int) hn) (fun m1 p => ?_)))
          obtain ⟨p1, _, _, p7, p4⟩ := p
          refine ⟨_, _, G_worth 6 p1 (by omega) hc hk k5, cI (G_more 8 m1 _) (fun v m2 p => ?_)⟩
          obtain ⟨v1, v2, _, v4⟩ := p
          have c1 : WhM m1 w (chS o (woS (M 4) (plM M (-4) n).1 k) i) := ⟨h1.1, by rw [p7, h1.2]⟩
          have c2 := W_more (code := (i : Int)) c1 v1 v2
          have c3 : WhM m2 (if v = 0 then w else (i : Int)) (chS o (woS (M 4) (plM M (-4) n).1 k) (i + 1)) := by
            rw [chS_s, ho]
            rw [ho] at c2
            exact c2
          have h3 := ih (i + 1) (by omega) m2 _ c3 (FrM_trans v4 (FrM_trans p4 h2))
          rw [ew]
          refine ⟨fun q => ?_, fun q => ?_⟩
          · rw [if_pos q] at h3
            exact h3
          · rw [if_neg q] at h3
            exact h3
      refine q_M_leave_0 hK x m ⟨_, _, R_in 8 _ _ _ _, br_t (b2_n0.mpr (by omega)) (cN (M_plan 7 h.2.1 hc (fun a q0 q1 => by rw [m54]) (-4) hn) (fun m1 p => ?_))⟩
      obtain ⟨p1, _, _, _, p4⟩ := p
      exact ⟨_, _, G_worth 6 p1 (by omega) hc hk k5, loop n 0 (by omega) _ _ ⟨rfl, by rw [mupd_at, fup_at]; rfl⟩ (FrM_53 p4 (by decide) (by decide) (by decide) (by decide))⟩
  · exact ⟨-1, M, M, ⟨⟨by decide, Nat.le_of_ble_eq_true rfl⟩, fun K hK => q_L_leave_0 hK x M ⟨_, _, R_isPart 8 M x, br_f (fun q => c (b2_n0.mp q)) (mret_i rfl rfl)⟩⟩, ⟨⟨by decide, Nat.le_of_ble_eq_true rfl⟩, fun K hK => q_M_leave_0 hK x M ⟨_, _, R_in 8 _ _ _ _, br_f (fun q => c (by have q := b2_n0.mp q; omega)) (mret_i rfl rfl)⟩⟩, h⟩
