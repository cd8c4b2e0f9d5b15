/-! PURE PROOFS 2: the constructors, at the shapes in which they run -/
def mCin (M : mMem) (k : Nat) : mMem := mclear (mzero (mzero (mzero (mzero (mzero (mzero (mzero M (k + 1)) (k + 2)) (k + 3)) (k + 4)) (k + 5)) (k + 6)) (k + 7)) k
set_option maxRecDepth 100000 in
theorem R_C_init_1 (d : Nat) (M : mMem) : mR3 (d + 3) 0 [vr 1] (shA 2 0, M) (none, (shA 9 7, mCin M 1)) := by
  refine ⟨⟨by decide, Nat.le_of_ble_eq_true rfl⟩, fun K hK => ?_⟩
  have hK : mClo m_C_init (mR3 (d + 2)) ((shA 9 7).1.length, mtot (shA 9 7).1) (0, fun _ => 0) (mret (none, (shA 9 7, mCin M 1))) K := hK
  refine hK 0 0 b_C_init_0 rfl _ _ _ ?_
  refine And.intro ⟨by decide, by decide, Nat.le_of_ble_eq_true rfl, Nat.le_of_ble_eq_true rfl⟩ ?_
  refine And.intro ⟨by decide, by decide, Nat.le_of_ble_eq_true rfl, Nat.le_of_ble_eq_true rfl⟩ ?_
  refine And.intro ⟨by decide, by decide, Nat.le_of_ble_eq_true rfl, Nat.le_of_ble_eq_true rfl⟩ ?_
  refine And.intro ⟨by decide, by decide, Nat.le_of_ble_eq_true rfl, Nat.le_of_ble_eq_true rfl⟩ ?_
  refine And.intro ⟨by decide, by decide, Nat.le_of_ble_eq_true rfl, Nat.le_of_ble_eq_true rfl⟩ ?_
  refine And.intro ⟨by decide, by decide, Nat.le_of_ble_eq_true rfl, Nat.le_of_ble_eq_true rfl⟩ ?_
  refine And.intro ⟨by decide, by decide, Nat.le_of_ble_eq_true rfl, Nat.le_of_ble_eq_true rfl⟩ ?_
  refine Exists.intro _ (And.intro (R_clear d (shA 9 7) _ 1 (by unfold isCh; decide +kernel)) ?_)
  exact And.intro rfl rfl
set_option maxRecDepth 100000 in
theorem R_C_init_9 (d : Nat) (M : mMem) : mR3 (d + 3) 0 [vr 9] (shA 10 8, M) (none, (shA 17 15, mCin M 9)) := by
  refine ⟨⟨by decide, Nat.le_of_ble_eq_true rfl⟩, fun K hK => ?_⟩
  have hK : mClo m_C_init (mR3 (d + 2)) ((shA 17 15).1.length, mtot (shA 17 15).1) (0, fun _ => 0) (mret (none, (shA 17 15, mCin M 9))) K := hK
  refine hK 0 0 b_C_init_0 rfl _ _ _ ?_
  refine And.intro ⟨by decide, by decide, Nat.le_of_ble_eq_true rfl, Nat.le_of_ble_eq_true rfl⟩ ?_
  refine And.intro ⟨by decide, by decide, Nat.le_of_ble_eq_true rfl, Nat.le_of_ble_eq_true rfl⟩ ?_
  refine And.intro ⟨by decide, by decide, Nat.le_of_ble_eq_true rfl, Nat.le_of_ble_eq_true rfl⟩ ?_
  refine And.intro ⟨by decide, by decide, Nat.le_of_ble_eq_true rfl, Nat.le_of_ble_eq_true rfl⟩ ?_
  refine And.intro ⟨by decide, by decide, Nat.le_of_ble_eq_true rfl, Nat.le_of_ble_eq_true rfl⟩ ?_
  refine And.intro ⟨by decide, by decide, Nat.le_of_ble_eq_true rfl, Nat.le_of_ble_eq_true rfl⟩ ?_
  refine And.intro ⟨by decide, by decide, Nat.le_of_ble_eq_true rfl, Nat.le_of_ble_eq_true rfl⟩ ?_
  refine Exists.intro _ (And.intro (R_clear d (shA 17 15) _ 9 (by unfold isCh; decide +kernel)) ?_)
  exact And.intro rfl rfl
set_option maxRecDepth 100000 in
theorem R_C_init_18 (d : Nat) (M : mMem) : mR3 (d + 3) 0 [vr 18] (shA 19 16, M) (none, (shA 26 23, mCin M 18)) := by
  refine ⟨⟨by decide, Nat.le_of_ble_eq_true rfl⟩, fun K hK => ?_⟩
  have hK : mClo m_C_init (mR3 (d + 2)) ((shA 26 23).1.length, mtot (shA 26 23).1) (0, fun _ => 0) (mret (none, (shA 26 23, mCin M 18))) K := hK
  refine hK 0 0 b_C_init_0 rfl _ _ _ ?_
  refine And.intro ⟨by decide, by decide, Nat.le_of_ble_eq_true rfl, Nat.le_of_ble_eq_true rfl⟩ ?_
  refine And.intro ⟨by decide, by decide, Nat.le_of_ble_eq_true rfl, Nat.le_of_ble_eq_true rfl⟩ ?_
  refine And.intro ⟨by decide, by decide, Nat.le_of_ble_eq_true rfl, Nat.le_of_ble_eq_true rfl⟩ ?_
  refine And.intro ⟨by decide, by decide, Nat.le_of_ble_eq_true rfl, Nat.le_of_ble_eq_true rfl⟩ ?_
  refine And.intro ⟨by decide, by decide, Nat.le_of_ble_eq_true rfl, Nat.le_of_ble_eq_true rfl⟩ ?_
  refine And.intro ⟨by decide, by decide, Nat.le_of_ble_eq_true rfl, Nat.le_of_ble_eq_true rfl⟩ ?_
  refine And.intro ⟨by decide, by decide, Nat.le_of_ble_eq_true rfl, Nat.le_of_ble_eq_true rfl⟩ ?_
  refine Exists.intro _ (And.intro (R_clear d (shA 26 23) _ 18 (by unfold isCh; decide +kernel)) ?_)
  exact And.intro rfl rfl
set_option maxRecDepth 100000 in
theorem R_C_init_27 (d : Nat) (M : mMem) : mR3 (d + 3) 0 [vr 27] (shA 28 25, M) (none, (shA 35 32, mCin M 27)) := by
  refine ⟨⟨by decide, Nat.le_of_ble_eq_true rfl⟩, fun K hK => ?_⟩
  have hK : mClo m_C_init (mR3 (d + 2)) ((shA 35 32).1.length, mtot (shA 35 32).1) (0, fun _ => 0) (mret (none, (shA 35 32, mCin M 27))) K := hK
  refine hK 0 0 b_C_init_0 rfl _ _ _ ?_
  refine And.intro ⟨by decide, by decide, Nat.le_of_ble_eq_true rfl, Nat.le_of_ble_eq_true rfl⟩ ?_
  refine And.intro ⟨by decide, by decide, Nat.le_of_ble_eq_true rfl, Nat.le_of_ble_eq_true rfl⟩ ?_
  refine And.intro ⟨by decide, by decide, Nat.le_of_ble_eq_true rfl, Nat.le_of_ble_eq_true rfl⟩ ?_
  refine And.intro ⟨by decide, by decide, Nat.le_of_ble_eq_true rfl, Nat.le_of_ble_eq_true rfl⟩ ?_
  refine And.intro ⟨by decide, by decide, Nat.le_of_ble_eq_true rfl, Nat.le_of_ble_eq_true rfl⟩ ?_
  refine And.intro ⟨by decide, by decide, Nat.le_of_ble_eq_true rfl, Nat.le_of_ble_eq_true rfl⟩ ?_
  refine And.intro ⟨by decide, by decide, Nat.le_of_ble_eq_true rfl, Nat.le_of_ble_eq_true rfl⟩ ?_
  refine Exists.intro _ (And.intro (R_clear d (shA 35 32) _ 27 (by unfold isCh; decide +kernel)) ?_)
  exact And.intro rfl rfl
set_option maxRecDepth 100000 in
theorem R_I_init_17 (d : Nat) (M : mMem) : mR3 (d + 4) 24 [vr 17] (shA 18 16, M) (none, (shA 26 24, mCin (mzero M 18) 18)) := by
  refine ⟨⟨by decide, Nat.le_of_ble_eq_true rfl⟩, fun K hK => ?_⟩
  have hK : mClo m_I_init (mR3 (d + 3)) ((shA 26 24).1.length, mtot (shA 26 24).1) (0, fun _ => 0) (mret (none, (shA 26 24, mCin (mzero M 18) 18))) K := hK
  refine hK 0 0 b_I_init_0 rfl _ _ _ ?_
  refine And.intro ⟨Nat.le_of_ble_eq_true rfl, Nat.le_of_ble_eq_true rfl⟩ ?_
  refine Exists.intro (shA 26 23, _) (And.intro (R_C_init_18 d _) (And.intro ⟨Nat.le_of_ble_eq_true rfl, Nat.le_of_ble_eq_true rfl, Nat.le_of_ble_eq_true rfl, Nat.le_of_ble_eq_true rfl⟩ ?_))
  exact And.intro rfl rfl
set_option maxRecDepth 100000 in
theorem R_I_init_26 (d : Nat) (M : mMem) : mR3 (d + 4) 24 [vr 26] (shA 27 25, M) (none, (shA 35 33, mCin (mzero M 27) 27)) := by
  refine ⟨⟨by decide, Nat.le_of_ble_eq_true rfl⟩, fun K hK => ?_⟩
  have hK : mClo m_I_init (mR3 (d + 3)) ((shA 35 33).1.length, mtot (shA 35 33).1) (0, fun _ => 0) (mret (none, (shA 35 33, mCin (mzero M 27) 27))) K := hK
  refine hK 0 0 b_I_init_0 rfl _ _ _ ?_
  refine And.intro ⟨Nat.le_of_ble_eq_true rfl, Nat.le_of_ble_eq_true rfl⟩ ?_
  refine Exists.intro (shA 35 32, _) (And.intro (R_C_init_27 d _) (And.intro ⟨Nat.le_of_ble_eq_true rfl, Nat.le_of_ble_eq_true rfl, Nat.le_of_ble_eq_true rfl, Nat.le_of_ble_eq_true rfl⟩ ?_))
  exact And.intro rfl rfl
set_option maxRecDepth 100000 in
theorem R_T_init_35 (d : Nat) (M : mMem) : mR3 (d + 1) 30 [vr 35] (shA 36 34, M) (none, (shA 37 35, mzero M 36)) := by
  refine ⟨⟨by decide, Nat.le_of_ble_eq_true rfl⟩, fun K hK => ?_⟩
  have hK : mClo m_T_init (mR3 (d + 0)) ((shA 37 35).1.length, mtot (shA 37 35).1) (0, fun _ => 0) (mret (none, (shA 37 35, mzero M 36))) K := hK
  refine hK 0 0 b_T_init_0 rfl _ _ _ ?_
  refine And.intro ⟨by decide, by decide, Nat.le_of_ble_eq_true rfl, Nat.le_of_ble_eq_true rfl⟩ ?_
  exact And.intro rfl rfl
set_option maxRecDepth 100000 in
theorem R_O_init_37 (d : Nat) (M : mMem) : mR3 (d + 1) 20 [vr 37] (shA 38 36, M) (none, (shA 38 36, M)) := by
  refine ⟨⟨by decide, Nat.le_of_ble_eq_true rfl⟩, fun K hK => ?_⟩
  have hK : mClo m_O_init (mR3 (d + 0)) ((shA 38 36).1.length, mtot (shA 38 36).1) (0, fun _ => 0) (mret (none, (shA 38 36, M))) K := hK
  refine hK 0 0 b_O_init_0 rfl _ _ _ ?_
  exact And.intro rfl rfl
set_option maxRecDepth 100000 in
theorem R_S_init_45 (d : Nat) (M : mMem) : mR3 (d + 1) 25 [vr 45] (shA 46 44, M) (none, (shA 47 45, mupd (mzero M 46) 45 (2 : Nat) (-1))) := by
  refine ⟨⟨by decide, Nat.le_of_ble_eq_true rfl⟩, fun K hK => ?_⟩
  have hK : mClo m_S_init (mR3 (d + 0)) ((shA 47 45).1.length, mtot (shA 47 45).1) (0, fun _ => 0) (mret (none, (shA 47 45, mupd (mzero M 46) 45 (2 : Nat) (-1)))) K := hK
  refine hK 0 0 b_S_init_0 rfl _ _ _ ?_
  refine And.intro ⟨by decide, by decide, Nat.le_of_ble_eq_true rfl, Nat.le_of_ble_eq_true rfl⟩ ?_
  exact And.intro rfl rfl
set_option maxRecDepth 100000 in
theorem R_S_init_47 (d : Nat) (M : mMem) : mR3 (d + 1) 25 [vr 47] (shA 48 46, M) (none, (shA 49 47, mupd (mzero M 48) 47 (2 : Nat) (-1))) := by
  refine ⟨⟨by decide, Nat.le_of_ble_eq_true rfl⟩, fun K hK => ?_⟩
  have hK : mClo m_S_init (mR3 (d + 0)) ((shA 49 47).1.length, mtot (shA 49 47).1) (0, fun _ => 0) (mret (none, (shA 49 47, mupd (mzero M 48) 47 (2 : Nat) (-1)))) K := hK
  refine hK 0 0 b_S_init_0 rfl _ _ _ ?_
  refine And.intro ⟨by decide, by decide, Nat.le_of_ble_eq_true rfl, Nat.le_of_ble_eq_true rfl⟩ ?_
  exact And.intro rfl rfl
set_option maxRecDepth 100000 in
theorem R_S_init_49 (d : Nat) (M : mMem) : mR3 (d + 1) 25 [vr 49] (shA 50 48, M) (none, (shA 51 49, mupd (mzero M 50) 49 (2 : Nat) (-1))) := by
  refine ⟨⟨by decide, Nat.le_of_ble_eq_true rfl⟩, fun K hK => ?_⟩
  have hK : mClo m_S_init (mR3 (d + 0)) ((shA 51 49).1.length, mtot (shA 51 49).1) (0, fun _ => 0) (mret (none, (shA 51 49, mupd (mzero M 50) 49 (2 : Nat) (-1)))) K := hK
  refine hK 0 0 b_S_init_0 rfl _ _ _ ?_
  refine And.intro ⟨by decide, by decide, Nat.le_of_ble_eq_true rfl, Nat.le_of_ble_eq_true rfl⟩ ?_
  exact And.intro rfl rfl
set_option maxRecDepth 100000 in
theorem R_S_init_51 (d : Nat) (M : mMem) : mR3 (d + 1) 25 [vr 51] (shA 52 50, M) (none, (shA 53 51, mupd (mzero M 52) 51 (2 : Nat) (-1))) := by
  refine ⟨⟨by decide, Nat.le_of_ble_eq_true rfl⟩, fun K hK => ?_⟩
  have hK : mClo m_S_init (mR3 (d + 0)) ((shA 53 51).1.length, mtot (shA 53 51).1) (0, fun _ => 0) (mret (none, (shA 53 51, mupd (mzero M 52) 51 (2 : Nat) (-1)))) K := hK
  refine hK 0 0 b_S_init_0 rfl _ _ _ ?_
  refine And.intro ⟨by decide, by decide, Nat.le_of_ble_eq_true rfl, Nat.le_of_ble_eq_true rfl⟩ ?_
  exact And.intro rfl rfl
