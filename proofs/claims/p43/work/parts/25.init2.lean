/-! PURE PROOFS 3: SamplerLaw(), SamplerLawModel(), the law up to its loop -/
def mS1 (M : mMem) (k : Nat) : mMem := mupd (mzero (mzero M k) (k + 1)) k (2 : Nat) (-1)
def mLn1 (M : mMem) : mMem := mCin (mzero (mzero (mCin (mzero (mzero (mCin (mzero (mCin (mzero M 1) 1) 9) 9) 17) 18) 18) 26) 27) 27
def mLn2 (M : mMem) : mMem := mzero (mzero (mzero (mzero (mzero (mzero (mzero (mzero (mzero (mzero (mLn1 M) 35) 36) 37) 38) 39) 40) 41) 42) 43) 44
def mLn (M : mMem) : mMem := mS1 (mS1 (mS1 (mS1 (mLn2 M) 45) 47) 49) 51
set_option maxRecDepth 100000 in
theorem R_L_init (d : Nat) (M : mMem) : mR3 (d + 5) 44 [vr 0] (shA 1 0, M) (none, (shA 53 52, mLn M)) := by
  refine ⟨⟨by decide, Nat.le_of_ble_eq_true rfl⟩, fun K hK => ?_⟩
  have hK : mClo m_L_init (mR3 (d + 4)) ((shA 53 52).1.length, mtot (shA 53 52).1) (0, fun _ => 0) (mret (none, (shA 53 52, mLn M))) K := hK
  have h4 : K 127 [(0, vr 0), (1, vi 4)] [] (shA 53 52, mLn M) := by
    refine hK 1 127 b_L_init_127 rfl _ _ _ (And.intro (fun _ => ?_) (fun q => absurd (show (4 : Int) ≤ 4 by decide) q))
    refine hK 2 151 b_L_init_151 rfl _ _ _ ?_
    exact And.intro rfl rfl
  have h3 : K 127 [(0, vr 0), (1, vi 3)] [] (shA 51 50, mS1 (mS1 (mS1 (mLn2 M) 45) 47) 49) := by
    refine hK 1 127 b_L_init_127 rfl _ _ _ (And.intro (fun q => absurd q (show ¬ (4 : Int) ≤ 3 by decide)) (fun _ => ?_))
    refine And.intro ⟨Nat.le_of_ble_eq_true rfl, Nat.le_of_ble_eq_true rfl⟩ ?_
    refine Exists.intro (shA 53 51, _) (And.intro (R_S_init_51 (d + 3) _) (And.intro ⟨Nat.le_of_ble_eq_true rfl, Nat.le_of_ble_eq_true rfl, Nat.le_of_ble_eq_true rfl, Nat.le_of_ble_eq_true rfl⟩ ?_))
    exact h4
  have h2 : K 127 [(0, vr 0), (1, vi 2)] [] (shA 49 48, mS1 (mS1 (mLn2 M) 45) 47) := by
    refine hK 1 127 b_L_init_127 rfl _ _ _ (And.intro (fun q => absurd q (show ¬ (4 : Int) ≤ 2 by decide)) (fun _ => ?_))
    refine And.intro ⟨Nat.le_of_ble_eq_true rfl, Nat.le_of_ble_eq_true rfl⟩ ?_
    refine Exists.intro (shA 51 49, _) (And.intro (R_S_init_49 (d + 3) _) (And.intro ⟨Nat.le_of_ble_eq_true rfl, Nat.le_of_ble_eq_true rfl, Nat.le_of_ble_eq_true rfl, Nat.le_of_ble_eq_true rfl⟩ ?_))
    exact h3
  have h1 : K 127 [(0, vr 0), (1, vi 1)] [] (shA 47 46, mS1 (mLn2 M) 45) := by
    refine hK 1 127 b_L_init_127 rfl _ _ _ (And.intro (fun q => absurd q (show ¬ (4 : Int) ≤ 1 by decide)) (fun _ => ?_))
    refine And.intro ⟨Nat.le_of_ble_eq_true rfl, Nat.le_of_ble_eq_true rfl⟩ ?_
    refine Exists.intro (shA 49 47, _) (And.intro (R_S_init_47 (d + 3) _) (And.intro ⟨Nat.le_of_ble_eq_true rfl, Nat.le_of_ble_eq_true rfl, Nat.le_of_ble_eq_true rfl, Nat.le_of_ble_eq_true rfl⟩ ?_))
    exact h2
  have h0 : K 127 [(0, vr 0), (1, vi 0)] [] (shA 45 44, mLn2 M) := by
    refine hK 1 127 b_L_init_127 rfl _ _ _ (And.intro (fun q => absurd q (show ¬ (4 : Int) ≤ 0 by decide)) (fun _ => ?_))
    refine And.intro ⟨Nat.le_of_ble_eq_true rfl, Nat.le_of_ble_eq_true rfl⟩ ?_
    refine Exists.intro (shA 47 45, _) (And.intro (R_S_init_45 (d + 3) _) (And.intro ⟨Nat.le_of_ble_eq_true rfl, Nat.le_of_ble_eq_true rfl, Nat.le_of_ble_eq_true rfl, Nat.le_of_ble_eq_true rfl⟩ ?_))
    exact h1
  refine hK 0 0 b_L_init_0 rfl _ _ _ ?_
  refine And.intro ⟨Nat.le_of_ble_eq_true rfl, Nat.le_of_ble_eq_true rfl⟩ ?_
  refine Exists.intro (shA 9 7, _) (And.intro (R_C_init_1 (d + 1) _) (And.intro ⟨Nat.le_of_ble_eq_true rfl, Nat.le_of_ble_eq_true rfl, Nat.le_of_ble_eq_true rfl, Nat.le_of_ble_eq_true rfl⟩ ?_))
  refine And.intro ⟨Nat.le_of_ble_eq_true rfl, Nat.le_of_ble_eq_true rfl⟩ ?_
  refine Exists.intro (shA 17 15, _) (And.intro (R_C_init_9 (d + 1) _) (And.intro ⟨Nat.le_of_ble_eq_true rfl, Nat.le_of_ble_eq_true rfl, Nat.le_of_ble_eq_true rfl, Nat.le_of_ble_eq_true rfl⟩ ?_))
  refine And.intro ⟨Nat.le_of_ble_eq_true rfl, Nat.le_of_ble_eq_true rfl⟩ ?_
  refine Exists.intro (shA 26 24, _) (And.intro (R_I_init_17 d _) (And.intro ⟨Nat.le_of_ble_eq_true rfl, Nat.le_of_ble_eq_true rfl, Nat.le_of_ble_eq_true rfl, Nat.le_of_ble_eq_true rfl⟩ ?_))
  refine And.intro ⟨Nat.le_of_ble_eq_true rfl, Nat.le_of_ble_eq_true rfl⟩ ?_
  refine Exists.intro (shA 35 33, _) (And.intro (R_I_init_26 d _) (And.intro ⟨Nat.le_of_ble_eq_true rfl, Nat.le_of_ble_eq_true rfl, Nat.le_of_ble_eq_true rfl, Nat.le_of_ble_eq_true rfl⟩ ?_))
  refine And.intro ⟨Nat.le_of_ble_eq_true rfl, Nat.le_of_ble_eq_true rfl⟩ ?_
  refine Exists.intro (shA 37 35, _) (And.intro (R_T_init_35 (d + 3) _) (And.intro ⟨Nat.le_of_ble_eq_true rfl, Nat.le_of_ble_eq_true rfl, Nat.le_of_ble_eq_true rfl, Nat.le_of_ble_eq_true rfl⟩ ?_))
  refine And.intro ⟨Nat.le_of_ble_eq_true rfl, Nat.le_of_ble_eq_true rfl⟩ ?_
  refine Exists.intro (shA 38 36, _) (And.intro (R_O_init_37 (d + 3) _) (And.intro ⟨Nat.le_of_ble_eq_true rfl, Nat.le_of_ble_eq_true rfl, Nat.le_of_ble_eq_true rfl, Nat.le_of_ble_eq_true rfl⟩ ?_))
  refine And.intro ⟨by decide, by decide, Nat.le_of_ble_eq_true rfl, Nat.le_of_ble_eq_true rfl⟩ ?_
  refine And.intro ⟨by decide, by decide, Nat.le_of_ble_eq_true rfl, Nat.le_of_ble_eq_true rfl⟩ ?_
  refine And.intro ⟨by decide, by decide, Nat.le_of_ble_eq_true rfl, Nat.le_of_ble_eq_true rfl⟩ ?_
  refine And.intro ⟨by decide, by decide, Nat.le_of_ble_eq_true rfl, Nat.le_of_ble_eq_true rfl⟩ ?_
  refine And.intro ⟨by decide, by decide, Nat.le_of_ble_eq_true rfl, Nat.le_of_ble_eq_true rfl⟩ ?_
  refine And.intro ⟨by decide, by decide, Nat.le_of_ble_eq_true rfl, Nat.le_of_ble_eq_true rfl⟩ ?_
  refine And.intro ⟨by decide, by decide, Nat.le_of_ble_eq_true rfl, Nat.le_of_ble_eq_true rfl⟩ ?_
  exact h0
set_option maxRecDepth 100000 in
def mMn (M : mMem) : mMem := mzero (mzero (mupd (mupd (mupd (mupd (mzero (mzero (mzero (mzero (mzero (mzero (mupd (mupd (mupd (mupd (mupd (mupd (mupd (mupd (mupd (mupd (mupd (mupd (mupd (mupd (mupd (mupd (mupd (mupd (mupd (mupd (mupd (mupd (mupd (mupd (mupd (mupd (mupd (mupd (mupd (mupd (mupd (mzero (mupd (mupd (mupd (mupd (mupd (mupd (mupd (mzero (mzero (mzero (mzero (M) 54) 55) 56) 57) 57 0 0) 57 1 6) 57 2 12) 57 3 17) 57 4 22) 57 5 25) 57 6 31) 58) 58 0 98) 58 1 101) 58 2 115) 58 3 105) 58 4 100) 58 5 101) 58 6 109) 58 7 105) 58 8 114) 58 9 114) 58 10 111) 58 11 114) 58 12 97) 58 13 98) 58 14 111) 58 15 118) 58 16 101) 58 17 99) 58 18 114) 58 19 111) 58 20 115) 58 21 115) 58 22 114) 58 23 111) 58 24 119) 58 25 116) 58 26 104) 58 27 114) 58 28 101) 58 29 97) 58 30 100) 59) 60) 61) 62) 63) 64) 64 0 (-4)) 64 1 (-4)) 64 2 (-4)) 64 3 (-4)) 65) 66
set_option maxHeartbeats 20000000 in
set_option maxRecDepth 100000 in
theorem R_M_init (d : Nat) (M : mMem) : mR3 (d + 1) 114 [vr 53] (shA 54 52, M) (none, (shA 67 65, mMn M)) := by
  refine ⟨⟨by decide, Nat.le_of_ble_eq_true rfl⟩, fun K hK => ?_⟩
  have hK : mClo m_M_init (mR3 d) ((shA 67 65).1.length, mtot (shA 67 65).1) (0, fun _ => 0) (mret (none, (shA 67 65, mMn M))) K := hK
  refine hK 0 0 b_M_init_0 rfl _ _ _ ?_
  refine And.intro ⟨by decide, by decide, (by first | decide +kernel | (dsimp only; decide +kernel)), (by first | decide +kernel | (dsimp only; decide +kernel))⟩ ?_
  refine And.intro ⟨by decide, by decide, (by first | decide +kernel | (dsimp only; decide +kernel)), (by first | decide +kernel | (dsimp only; decide +kernel))⟩ ?_
  refine And.intro ⟨by decide, by decide, (by first | decide +kernel | (dsimp only; decide +kernel)), (by first | decide +kernel | (dsimp only; decide +kernel))⟩ ?_
  refine And.intro ⟨by decide, by decide, (by first | decide +kernel | (dsimp only; decide +kernel)), (by first | decide +kernel | (dsimp only; decide +kernel))⟩ ?_
  refine And.intro ⟨by decide, by decide, (by first | decide +kernel | (dsimp only; decide +kernel)), (by first | decide +kernel | (dsimp only; decide +kernel))⟩ ?_
  refine And.intro ⟨by decide, by decide, (by first | decide +kernel | (dsimp only; decide +kernel)), (by first | decide +kernel | (dsimp only; decide +kernel))⟩ ?_
  refine And.intro ⟨by decide, by decide, (by first | decide +kernel | (dsimp only; decide +kernel)), (by first | decide +kernel | (dsimp only; decide +kernel))⟩ ?_
  refine And.intro ⟨by decide, by decide, (by first | decide +kernel | (dsimp only; decide +kernel)), (by first | decide +kernel | (dsimp only; decide +kernel))⟩ ?_
  refine And.intro ⟨by decide, by decide, (by first | decide +kernel | (dsimp only; decide +kernel)), (by first | decide +kernel | (dsimp only; decide +kernel))⟩ ?_
  refine And.intro ⟨by decide, by decide, (by first | decide +kernel | (dsimp only; decide +kernel)), (by first | decide +kernel | (dsimp only; decide +kernel))⟩ ?_
  refine And.intro ⟨by decide, by decide, (by first | decide +kernel | (dsimp only; decide +kernel)), (by first | decide +kernel | (dsimp only; decide +kernel))⟩ ?_
  refine And.intro ⟨by decide, by decide, (by first | decide +kernel | (dsimp only; decide +kernel)), (by first | decide +kernel | (dsimp only; decide +kernel))⟩ ?_
  refine And.intro ⟨by decide, by decide, (by first | decide +kernel | (dsimp only; decide +kernel)), (by first | decide +kernel | (dsimp only; decide +kernel))⟩ ?_
  exact And.intro rfl rfl
theorem shA_67 : shA 67 65 = S0 := by decide +kernel
/-- the memory of a fresh pair -/
def M0 : mMem := mMn (mzero (mLn (mzero (fun _ _ => 0) 0)) 53)
set_option maxHeartbeats 20000000 in
set_option maxRecDepth 100000 in
theorem law_entry {L : Nat} {xs : Nat → Int} {K : Nat → mLV → List mVal → mHp → Prop} (hK : mClo m_W_law (mR3 10) (100, 5000) (L + 1, xs) (fun v _ => v = some (vi 1)) K) (h : K 18 [(0, vs 0), (1, vr 0), (2, vr 53), (3, vi 0)] [] (S0, M0)) : K 0 [(0, vs 0)] [] (([], []), fun _ _ => 0) := by
  refine hK 0 0 b_W_law_0 rfl _ _ _ ?_
  refine And.intro ⟨Nat.le_of_ble_eq_true rfl, Nat.le_of_ble_eq_true rfl⟩ ?_
  refine Exists.intro (shA 53 52, _) (And.intro (R_L_init 5 _) (And.intro ⟨Nat.le_of_ble_eq_true rfl, Nat.le_of_ble_eq_true rfl, Nat.le_of_ble_eq_true rfl, Nat.le_of_ble_eq_true rfl⟩ ?_))
  refine And.intro ⟨Nat.le_of_ble_eq_true rfl, Nat.le_of_ble_eq_true rfl⟩ ?_
  refine Exists.intro (shA 67 65, _) (And.intro (R_M_init 9 _) (And.intro ⟨Nat.le_of_ble_eq_true rfl, Nat.le_of_ble_eq_true rfl, Nat.le_of_ble_eq_true rfl, Nat.le_of_ble_eq_true rfl⟩ ?_))
  rw [← shA_67] at h
  exact h
