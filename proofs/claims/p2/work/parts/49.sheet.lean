/-! PURE PROOFS 27: back, sheet, lay -/
theorem P_back {M : mMem} (h : Inv M) (k : Int) : PairI 81 184 [vi k] M := by
  by_cases c : k = 0 ∨ k = 1
  · obtain ⟨c2, hk⟩ : ∃ c2 : Nat, (k = 0 ∧ c2 = 17) ∨ (k = 1 ∧ c2 = 26) := by
      rcases c with c | c
      · exact ⟨17, Or.inl ⟨c, rfl⟩⟩
      · exact ⟨26, Or.inr ⟨c, rfl⟩⟩
    have im : ImI M c2 (c2 + 1) k (85 * (k + 1)) := by
      rcases hk with ⟨a, b⟩ | ⟨a, b⟩
      · rw [a, b]
        exact h.2.2.1
      · rw [a, b]
        exact h.2.2.2.1
    obtain ⟨j1, j2, j3⟩ := im
    have i1 : w32 (85 * w32 (k + 1)) = 85 * (k + 1) := by rw [w32_s (z := k + 1) (by omega) (by omega), w32_s (by omega) (by omega)]
    have st : ∀ {K : Nat → mLV → List mVal → mHp → Prop} {cal : mCal} {lim : Nat × Nat} {scr : Nat × (Nat → Int)} {ret : Option mVal → mHp → Prop}, mClo m_L_back cal lim scr ret K → K 26 [(0, vr 0)] [vr c2] (S0, M) → K 0 [(0, vr 0), (1, vi k)] [] (S0, M) := by
      intro K cal lim scr ret hK k26
      rcases hk with ⟨a, b⟩ | ⟨a, b⟩
      · subst b
        exact q_L_back_0 hK k M (br_t a (br_f (fun q => q a) k26))
      · subst b
        exact q_L_back_0 hK k M (br_f (by omega) (br_t a (br_t (by omega) k26)))
    by_cases c3 : M c2 1 = 0
    · refine ⟨-2, M, M, ⟨⟨by decide, Nat.le_of_ble_eq_true rfl⟩, fun K hK => st hK (q_L_back_26 hK c2 M (by omega) (br_f (fun q => q c3) (mret_i rfl rfl)))⟩, ⟨⟨by decide, Nat.le_of_ble_eq_true rfl⟩, fun K hK => q_M_back_0 hK k M ⟨_, _, R_in 8 _ _ _ _, br_t (b2_n0.mpr (by omega)) (mIn_i (by omega) (by omega) (br_f (fun q => q (by omega)) (mret_i rfl rfl)))⟩⟩, h⟩
    · obtain ⟨ci, pi⟩ := j3 (by omega)
      have cp : cpP 1 (c2 + 1) := by
        unfold cpP
        omega
      have cc := cpy_cht cp ci
      have b5 : 0 ≤ M (c2 + 1) 5 ∧ M (c2 + 1) 5 ≤ 5 := ci.2.1
      have b6 : 0 ≤ M (c2 + 1) 6 ∧ M (c2 + 1) 6 ≤ 8 := ci.2.2.2.1
      obtain ⟨n, hn⟩ : ∃ n : Nat, M (c2 + 1) 5 = n := ⟨(M (c2 + 1) 5).toNat, by omega⟩
      have n1 : cpyM M 1 (c2 + 1) 1 5 = n := by rw [cpy_5 M (by omega), hn]
      have hL := cc.2.2.1
      rw [n1] at hL
      have m63 : cpyM M 1 (c2 + 1) 63 = M 63 := cpy_ne M (by omega)
      have m54 : cpyM M 1 (c2 + 1) 54 = M 54 := cpy_ne M (by omega)
      have a1 : mR3 10 81 [vr 0, vi k] (S0, M) (some (vi (woS (cpyM M 1 (c2 + 1) (1 + 3)) (cpyM M 1 (c2 + 1) (1 + 1)) n)), (S0, cpyM M 1 (c2 + 1))) :=
        ⟨⟨by decide, Nat.le_of_ble_eq_true rfl⟩, fun K hK => st hK (q_L_back_26 hK c2 M (by omega) (br_t c3 ⟨_, R_copyFrom 8 M 1 (c2 + 1) cp, _, _, R_worth 6 _ 1 (by omega) n n1 (by omega) cc.1 hL, mret_i rfl rfl⟩))⟩
      have sm := cpy_same M cp
      have e1 : ∀ j : Nat, j ≠ 54 → mcpy (cpyM M 1 (c2 + 1)) 54 (85 * (k + 1)) 54 0 85 j = cpyM M 1 (c2 + 1) j := fun j q => mcpy_ne _ _ _ _ _ q
      have f54 : ∀ i : Int, 0 ≤ i → i < 85 → mcpy (cpyM M 1 (c2 + 1)) 54 (85 * (k + 1)) 54 0 85 54 (0 + i) = M 54 (85 * (k + 1) + i) := fun i q0 q1 => by
        unfold mcpy
        rw [if_pos ⟨rfl, by omega, by omega⟩, m54]
        congr 1
        omega
      have g54 : ∀ i : Int, 85 ≤ i → mcpy (cpyM M 1 (c2 + 1)) 54 (85 * (k + 1)) 54 0 85 54 i = M 54 i := fun i q => by
        unfold mcpy
        rw [if_neg (by omega), m54]
      have cl := R_copies 8 (cpyM M 1 (c2 + 1)) (85 * (k + 1)) 0 (by omega) (by omega) (by omega)
      generalize mcpy (cpyM M 1 (c2 + 1)) 54 (85 * (k + 1)) 54 0 85 = m at e1 f54 g54 cl
      have sm2 : Same m 1 M (c2 + 1) := by
        unfold Same at sm ⊢
        rw [e1 1 (by decide), e1 (1 + 1) (by decide), e1 (1 + 2) (by decide), e1 (1 + 3) (by decide), e1 (1 + 4) (by decide), e1 (1 + 5) (by decide)]
        exact sm
      have iv : Inv m := by
        refine Inv_c1 h (Cht_eq cc (fun j q0 q1 => e1 j (by omega))) (Pg_same pi b5.2 b6.2 sm2 f54) (fun j q0 q1 => ?_) (fun i q0 q1 => g54 i q0)
        rw [e1 j q1, cpy_ne M (by omega)]
      have k5 : m 1 5 = n := by rw [e1 1 (by decide), n1]
      have pw := Pg_wo iv.2.1 k5
      have pl := Pg_law iv.2.1 iv.1
      rw [k5] at pl
      rw [e1 (1 + 3) (by decide), e1 (1 + 1) (by decide)] at pw
      have k39 : m 54 (0 + 39) = n := by
        have q := iv.2.1.2.2.1
        rw [q, k5]
      refine ⟨_, _, _, a1, ⟨⟨by decide, Nat.le_of_ble_eq_true rfl⟩, fun K hK => q_M_back_0 hK k _ ⟨_, _, R_in 8 _ _ _ _, br_t (b2_n0.mpr (by omega)) ?_⟩⟩, iv⟩
      rw [i1, m63]
      exact mIn_i (by omega) (by omega) (br_t (by omega) ⟨_, cl, _, _, R_worthOn 6 m 0 n (by omega) k39 (by omega) pl, mret_i pw rfl⟩)
  · exact ⟨-1, M, M, ⟨⟨by decide, Nat.le_of_ble_eq_true rfl⟩, fun K hK => q_L_back_0 hK k M (br_f (by omega) (br_f (by omega) (mret_i rfl rfl)))⟩, ⟨⟨by decide, Nat.le_of_ble_eq_true rfl⟩, fun K hK => q_M_back_0 hK k M ⟨_, _, R_in 8 _ _ _ _, br_f (fun q => c (by have q := b2_n0.mp q; omega)) (mret_i rfl rfl)⟩⟩, h⟩
theorem mfill_ne (M : mMem) {k j : Nat} (n v : Int) (h : j ≠ k) : mfill M k n v j = M j := by
  funext i
  unfold mfill
  rw [if_neg (fun q => h q.1)]
theorem mfill_at (M : mMem) {k : Nat} {n v i : Int} (h0 : 0 ≤ i) (h1 : i < n) : mfill M k n v k i = v := by
  unfold mfill
  rw [if_pos ⟨rfl, h0, h1⟩]
theorem R_renew (d : Nat) (M : mMem) (c : Nat) (hc : c = 45 ∨ c = 47 ∨ c = 49 ∨ c = 51) (a n : Int) : mR3 (d + 2) 26 [vr c, vi a, vi n] (S0, M) (none, (S0, mupd (mupd (mfill M (c + 1) (40 : Nat) 0) c 1 a) c 2 n)) := by
  have hs : S0.1[c + 1]? = some (0, 40) := by
    rcases hc with h | h | h | h <;> rw [h] <;> decide +kernel
  exact ⟨⟨by decide, Nat.le_of_ble_eq_true rfl⟩, fun K hK => q_S_renew_0 hK c a n M hc ⟨_, R_fill d S0 M (c + 1) 40 0 hs (by decide), mret_n rfl⟩⟩
def shF (M : mMem) (k : Int) (n : Int) : mMem := fun r i => if r = 66 ∧ 40 * k ≤ i ∧ i < 40 * k + n then 0 else M r i
theorem shF_0 (M : mMem) (k : Int) : shF M k 0 = M := by
  funext r i
  unfold shF
  rw [if_neg (by omega)]
theorem shF_s (M : mMem) (k : Int) {n : Int} (h : 0 ≤ n) : mupd (shF M k n) 66 (40 * k + n) 0 = shF M k (n + 1) := by
  funext r i
  unfold mupd shF
  by_cases h1 : r = 66
  · by_cases h2 : i = 40 * k + n
    · rw [if_pos ⟨h1, h2⟩, if_pos ⟨h1, by omega, by omega⟩]
    · rw [if_neg (fun q => h2 q.2)]
      by_cases h3 : 40 * k ≤ i ∧ i < 40 * k + n
      · rw [if_pos ⟨h1, h3⟩, if_pos ⟨h1, by omega, by omega⟩]
      · rw [if_neg (fun q => h3 q.2), if_neg (fun q => h3 ⟨q.2.1, by omega⟩)]
  · rw [if_neg (fun q => h1 q.1), if_neg (fun q => h1 q.1), if_neg (fun q => h1 q.1)]
theorem shF_ne (M : mMem) (k n : Int) {r : Nat} (h : r ≠ 66) : shF M k n r = M r := by
  funext i
  unfold shF
  rw [if_neg (fun q => h q.1)]
theorem P_sheet {M : mMem} (h : Inv M) (k a n : Int) : PairI 82 185 [vi k, vi a, vi n] M := by
  by_cases c : (0 ≤ k ∧ k < 4) ∧ 0 ≤ a ∧ a ≤ 2
  · by_cases c1 : n ≤ 40
    · by_cases c2 : 0 ≤ n
      · obtain ⟨kk, hk⟩ : ∃ kk : Nat, k = kk := ⟨k.toNat, by omega⟩
        have tn : k.toNat = kk := by omega
        have hcc : 45 + 2 * kk = 45 ∨ 45 + 2 * kk = 47 ∨ 45 + 2 * kk = 49 ∨ 45 + 2 * kk = 51 := by omega
        have a1 : mR3 10 82 [vr 0, vi k, vi a, vi n] (S0, M) (some (vi 1), (S0, mupd (mupd (mfill M (45 + 2 * kk + 1) (40 : Nat) 0) (45 + 2 * kk) 1 a) (45 + 2 * kk) 2 n)) := by
          refine ⟨⟨by decide, Nat.le_of_ble_eq_true rfl⟩, fun K hK => q_L_sheet_0 hK k a n M ⟨_, _, R_isSheet 8 M k, br_f (fun q => b2_0.mp q c.1) ⟨_, _, R_isLane 8 M a, br_f (fun q => b2_0.mp q c.2) (br_t c1 (br_t c2 (mIn_i (by omega) (by omega) ⟨45 + 2 * kk, ?_, ?_⟩)))⟩⟩⟩
          · rw [tn]
            exact sh_at kk (by omega)
          · exact q_L_sheet_35 hK a n _ M hcc ⟨_, R_renew 7 M _ hcc a n, mret_i rfl rfl⟩
        have e0 : ∀ j : Nat, j ≠ 45 + 2 * kk → j ≠ 46 + 2 * kk → mupd (mupd (mfill M (45 + 2 * kk + 1) (40 : Nat) 0) (45 + 2 * kk) 1 a) (45 + 2 * kk) 2 n j = M j := fun j q0 q1 => by rw [mupd_ne _ _ _ q0, mupd_ne _ _ _ q0, mfill_ne _ _ _ (by omega)]
        have f1 : mupd (mupd (mfill M (45 + 2 * kk + 1) (40 : Nat) 0) (45 + 2 * kk) 1 a) (45 + 2 * kk) 2 n (45 + 2 * kk) 1 = a := by rw [mupd_at, fup_ne _ _ (by decide), mupd_at, fup_at]
        have f2 : mupd (mupd (mfill M (45 + 2 * kk + 1) (40 : Nat) 0) (45 + 2 * kk) 1 a) (45 + 2 * kk) 2 n (45 + 2 * kk) 2 = n := by rw [mupd_at, fup_at]
        have f3 : ∀ i : Int, 0 ≤ i → i < 40 → mupd (mupd (mfill M (45 + 2 * kk + 1) (40 : Nat) 0) (45 + 2 * kk) 1 a) (45 + 2 * kk) 2 n (46 + 2 * kk) i = 0 := fun i q0 q1 => by
          rw [mupd_ne _ _ _ (by omega), mupd_ne _ _ _ (by omega), show 46 + 2 * kk = 45 + 2 * kk + 1 by omega]
          exact mfill_at M q0 (by omega)
        generalize mupd (mupd (mfill M (45 + 2 * kk + 1) (40 : Nat) 0) (45 + 2 * kk) 1 a) (45 + 2 * kk) 2 n = m at a1 e0 f1 f2 f3
        have a2 : mR3 10 185 [vr 53, vi k, vi a, vi n] (S0, m) (some (vi 1), (S0, shF (mupd (mupd m 64 k a) 65 k n) k 40)) := by
          refine ⟨⟨by decide, Nat.le_of_ble_eq_true rfl⟩, fun K hK => ?_⟩
          have loop : ∀ (j : Nat) (i : Int), 0 ≤ i → i + j = 40 → K 56 [(0, vr 53), (1, vi k), (4, vi i)] [] (S0, shF (mupd (mupd m 64 k a) 65 k n) k i) := by
            intro j
            induction j with
            | zero =>
              intro i h0 hi
              refine q_M_sheet_56 hK k i _ (br_t (by omega) (mret_i rfl ?_))
              rw [show i = 40 by omega]
            | succ j ih =>
              intro i h0 hi
              have h1 := ih (i + 1) (by omega) (by omega)
              refine q_M_sheet_56 hK k i _ (br_f (by omega) ?_)
              rw [w32_s (z := 40 * k) (by omega) (by omega), w32_s (z := 40 * k + i) (by omega) (by omega), w32_s (z := i + 1) (by omega) (by omega), shF_s _ _ h0]
              exact mIn_i (by omega) (by omega) h1
          have l0 := loop 40 0 (by omega) (by omega)
          rw [shF_0] at l0
          exact q_M_sheet_0 hK k a n m ⟨_, _, R_in 8 _ _ _ _, br_f (fun q => b2_0.mp q (by omega)) ⟨_, _, R_in 8 _ _ _ _, br_f (fun q => b2_0.mp q (by omega)) (br_t c1 (br_t c2 (mIn_i (by omega) (by omega) (mIn_i (by omega) (by omega) l0))))⟩⟩
        refine ⟨_, _, _, a1, a2, ?_⟩
        have e : ∀ j : Nat, j ≠ 45 + 2 * kk → j ≠ 46 + 2 * kk → j ≠ 64 → j ≠ 65 → j ≠ 66 → shF (mupd (mupd m 64 k a) 65 k n) k 40 j = M j := fun j q0 q1 q2 q3 q4 => by rw [shF_ne _ _ _ q4, mupd_ne _ _ _ q3, mupd_ne _ _ _ q2, e0 j q0 q1]
        have d : ∀ j : Nat, j ≠ 64 → j ≠ 65 → j ≠ 66 → shF (mupd (mupd m 64 k a) 65 k n) k 40 j = m j := fun j q2 q3 q4 => by rw [shF_ne _ _ _ q4, mupd_ne _ _ _ q3, mupd_ne _ _ _ q2]
        have f64 : shF (mupd (mupd m 64 k a) 65 k n) k 40 64 = fup (M 64) k a := by rw [shF_ne _ _ _ (by decide), mupd_ne _ _ _ (by decide), mupd_at, e0 64 (by omega) (by omega)]
        have f65 : shF (mupd (mupd m 64 k a) 65 k n) k 40 65 = fup (M 65) k n := by rw [shF_ne _ _ _ (by decide), mupd_at, mupd_ne _ _ _ (by decide), e0 65 (by omega) (by omega)]
        have f66 : ∀ i : Int, (i < 40 * k ∨ 40 * k + 40 ≤ i) → shF (mupd (mupd m 64 k a) 65 k n) k 40 66 i = M 66 i := fun i q => by
          unfold shF
          rw [if_neg (by omega), mupd_ne _ _ _ (by decide), mupd_ne _ _ _ (by decide), e0 66 (by omega) (by omega)]
        have g66 : ∀ i : Int, 40 * k ≤ i → i < 40 * k + 40 → shF (mupd (mupd m 64 k a) 65 k n) k 40 66 i = 0 := fun i q0 q1 => by
          unfold shF
          rw [if_pos ⟨rfl, q0, q1⟩]
        generalize shF (mupd (mupd m 64 k a) 65 k n) k 40 = m' at e d f64 f65 f66 g66
        have ht := h.2.2.2.2.1
        have hs := h.2.2.2.2.2.1
        have hh := h.2.2.2.2.2.2.1
        have ho := h.2.2.2.2.2.2.2.1
        have r : ∀ j : Nat, (j < 45 ∨ (53 ≤ j ∧ j < 64)) → m' j = M j := fun j q => e j (by omega) (by omega) (by omega) (by omega) (by omega)
        refine Inv_ch h (fun j hj => r j (by omega)) (fun i _ _ => by rw [r 54 (by omega)]) ?_ ?_ ?_ ?_
        · exact TaI_fr ht (by rw [r 35 (by omega)]) (by rw [r 35 (by omega)]) (by rw [r 53 (by omega)]) (by rw [r 53 (by omega)]) (r 56 (by omega)) (r 36 (by omega))
        · exact SeI_fr hs (by rw [r 0 (by omega)]) (by rw [r 53 (by omega)]) (r 60 (by omega)) (r 40 (by omega)) (r 41 (by omega))
        · intro j hj
          by_cases q : j = kk
          · subst q
            refine Or.inr ⟨?_, ?_, ?_, ?_, fun i q0 q1 => ?_⟩
            · rw [d _ (by omega) (by omega) (by omega), f2]
              omega
            · rw [d _ (by omega) (by omega) (by omega), f1]
              omega
            · rw [f64, hk, fup_at, d (45 + 2 * j) (by omega) (by omega) (by omega), f1]
            · rw [f65, hk, fup_at, d (45 + 2 * j) (by omega) (by omega) (by omega), f2]
            · rw [g66 _ (by omega) (by omega), d _ (by omega) (by omega) (by omega), f3 i q0 q1]
          · have g := hh j hj
            unfold ShI at g ⊢
            rw [e (45 + 2 * j) (by omega) (by omega) (by omega) (by omega) (by omega), e (46 + 2 * j) (by omega) (by omega) (by omega) (by omega) (by omega), f64, f65, fup_ne _ _ (by omega), fup_ne _ _ (by omega)]
            rcases g with g | ⟨g1, g2, g3, g4, g5⟩
            · exact Or.inl g
            · refine Or.inr ⟨g1, g2, g3, g4, fun i q0 q1 => ?_⟩
              rw [f66 _ (by omega)]
              exact g5 i q0 q1
        · rw [r 0 (by omega), r 53 (by omega)]
          exact ho
      · refine ⟨-14, M, M, ⟨⟨by decide, Nat.le_of_ble_eq_true rfl⟩, fun K hK => q_L_sheet_0 hK k a n M ⟨_, _, R_isSheet 8 M k, br_f (fun q => b2_0.mp q c.1) ⟨_, _, R_isLane 8 M a, br_f (fun q => b2_0.mp q c.2) (br_t c1 (br_f c2 (mret_i rfl rfl)))⟩⟩⟩, ⟨⟨by decide, Nat.le_of_ble_eq_true rfl⟩, fun K hK => q_M_sheet_0 hK k a n M ⟨_, _, R_in 8 _ _ _ _, br_f (fun q => b2_0.mp q (by omega)) ⟨_, _, R_in 8 _ _ _ _, br_f (fun q => b2_0.mp q (by omega)) (br_t c1 (br_f c2 (mret_i rfl rfl)))⟩⟩⟩, h⟩
    · refine ⟨-1, M, M, ⟨⟨by decide, Nat.le_of_ble_eq_true rfl⟩, fun K hK => q_L_sheet_0 hK k a n M ⟨_, _, R_isSheet 8 M k, br_f (fun q => b2_0.mp q c.1) ⟨_, _, R_isLane 8 M a, br_f (fun q => b2_0.mp q c.2) (br_f c1 (mret_i rfl rfl))⟩⟩⟩, ⟨⟨by decide, Nat.le_of_ble_eq_true rfl⟩, fun K hK => q_M_sheet_0 hK k a n M ⟨_, _, R_in 8 _ _ _ _, br_f (fun q => b2_0.mp q (by omega)) ⟨_, _, R_in 8 _ _ _ _, br_f (fun q => b2_0.mp q (by omega)) (br_f c1 (mret_i rfl rfl))⟩⟩⟩, h⟩
  · by_cases c1 : 0 ≤ k ∧ k < 4
    · have c2 : ¬ (0 ≤ a ∧ a ≤ 2) := fun q => c ⟨c1, q⟩
      exact ⟨-1, M, M, ⟨⟨by decide, Nat.le_of_ble_eq_true rfl⟩, fun K hK => q_L_sheet_0 hK k a n M ⟨_, _, R_isSheet 8 M k, br_f (fun q => b2_0.mp q c1) ⟨_, _, R_isLane 8 M a, br_t (b2_f c2) (mret_i rfl rfl)⟩⟩⟩, ⟨⟨by decide, Nat.le_of_ble_eq_true rfl⟩, fun K hK => q_M_sheet_0 hK k a n M ⟨_, _, R_in 8 _ _ _ _, br_f (fun q => b2_0.mp q (by omega)) ⟨_, _, R_in 8 _ _ _ _, br_t (b2_f (by omega)) (mret_i rfl rfl)⟩⟩⟩, h⟩
    · exact ⟨-1, M, M, ⟨⟨by decide, Nat.le_of_ble_eq_true rfl⟩, fun K hK => q_L_sheet_0 hK k a n M ⟨_, _, R_isSheet 8 M k, br_t (b2_f c1) (mret_i rfl rfl)⟩⟩, ⟨⟨by decide, Nat.le_of_ble_eq_true rfl⟩, fun K hK => q_M_sheet_0 hK k a n M ⟨_, _, R_in 8 _ _ _ _, br_t (b2_f (by omega)) (mret_i rfl rfl)⟩⟩, h⟩
