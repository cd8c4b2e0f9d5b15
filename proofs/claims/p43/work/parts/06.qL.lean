set_option maxRecDepth 40000 in
theorem q_L_feed_0 {cal : mCal} {lim : Nat × Nat} {scr : Nat × (Nat → Int)} {ret : Option mVal → mHp → Prop} {K : Nat → mLV → List mVal → mHp → Prop} (hK : mClo m_L_feed cal lim scr ret K) (x1 : Int) (M : mMem) (h :
  ((x1 < 0 →
    ret (some (vi (-1))) (S0, M)) ∧ (¬ (x1 < 0) →
    ((x1 ≤ 127 →
      (((M 35 1) < 160 →
        mIn (M 35 1) 160 (ret (some (vi ((mupd (mupd M 36 (M 35 1) x1) 35 1 (w32 (((mupd M 36 (M 35 1) x1) 35 1) + 1))) 35 1))) (S0, mupd (mupd M 36 (M 35 1) x1) 35 1 (w32 (((mupd M 36 (M 35 1) x1) 35 1) + 1))))) ∧ (¬ ((M 35 1) < 160) →
        ret (some (vi (-3))) (S0, M)))) ∧ (¬ (x1 ≤ 127) →
      ret (some (vi (-1))) (S0, M)))))) :
  K 0 [(0, vr 0), (1, vi x1)] [] (S0, M) := by
  exact mQ hK [10, 12, 28] 4 0 0 b_L_feed_0 rfl _ _ _ h
set_option maxRecDepth 40000 in
theorem q_L_end_0 {cal : mCal} {lim : Nat × Nat} {scr : Nat × (Nat → Int)} {ret : Option mVal → mHp → Prop} {K : Nat → mLV → List mVal → mHp → Prop} (hK : mClo m_L_end cal lim scr ret K) (x1 : Int) (M : mMem) (h :
  ((x1 < 0 →
    ret (some (vi (-1))) (S0, M)) ∧ (¬ (x1 < 0) →
    ((x1 ≤ (M 35 1) →
      ret (some (vi (M 35 1))) (S0, mupd M 35 1 x1)) ∧ (¬ (x1 ≤ (M 35 1)) →
      ret (some (vi (-1))) (S0, M)))))) :
  K 0 [(0, vr 0), (1, vi x1)] [] (S0, M) := by
  exact mQ hK [15, 17] 3 0 0 b_L_end_0 rfl _ _ _ h
set_option maxRecDepth 40000 in
theorem q_L_text_0 {cal : mCal} {lim : Nat × Nat} {scr : Nat × (Nat → Int)} {ret : Option mVal → mHp → Prop} {K : Nat → mLV → List mVal → mHp → Prop} (hK : mClo m_L_text cal lim scr ret K)  (M : mMem) (h :
  (∃ v2 m1, cal 31 [vr 35, vr 9] (S0, M) (some (vi v2), (S0, m1)) ∧
  ((((mupd m1 35 1 0) 35 2) = 0 →
    (∃ m3, cal 2 [vr 1, vr 9] (S0, mupd m1 35 1 0) (none, (S0, m3)) ∧
    ret (some (vi v2)) (S0, mupd (mupd (mupd m3 0 13 0) 17 1 0) 26 1 0))) ∧ (¬ (((mupd m1 35 1 0) 35 2) = 0) →
    ret (some (vi (w32 ((-10) - ((mupd m1 35 1 0) 35 3))))) (S0, mupd m1 35 1 0))))) :
  K 0 [(0, vr 0)] [] (S0, M) := by
  exact mQ hK [41] 2 0 0 b_L_text_0 rfl _ _ _ h
set_option maxRecDepth 40000 in
theorem q_L_fault_0 {cal : mCal} {lim : Nat × Nat} {scr : Nat × (Nat → Int)} {ret : Option mVal → mHp → Prop} {K : Nat → mLV → List mVal → mHp → Prop} (hK : mClo m_L_fault cal lim scr ret K)  (M : mMem) (h :
  ret (some (vi (M 35 2))) (S0, M)) :
  K 0 [(0, vr 0)] [] (S0, M) := by
  exact mQ hK [] 1 0 0 b_L_fault_0 rfl _ _ _ h
set_option maxRecDepth 40000 in
theorem q_L_rule_0 {cal : mCal} {lim : Nat × Nat} {scr : Nat × (Nat → Int)} {ret : Option mVal → mHp → Prop} {K : Nat → mLV → List mVal → mHp → Prop} (hK : mClo m_L_rule cal lim scr ret K) (x1 : Int) (M : mMem) (h :
  (((x1 = ((0 : Nat) : Int) →
    ret (some (vi (M 1 5))) (S0, M)) ∧ 
  (x1 = ((1 : Nat) : Int) →
    (∃ v2 m1, cal 15 [vr 1, vi 0] (S0, M) (some (vi v2), (S0, m1)) ∧
    (∃ v4 m3, cal 15 [vr 1, vi 4] (S0, m1) (some (vi v4), (S0, m3)) ∧
    ret (some (vi (w32 ((w32 (36 - v2)) - v4)))) (S0, m3)))) ∧ 
  (x1 = ((2 : Nat) : Int) →
    (∃ v6 m5, cal 15 [vr 1, vi 4] (S0, M) (some (vi v6), (S0, m5)) ∧
    ret (some (vi v6)) (S0, m5))) ∧ 
  (x1 = ((3 : Nat) : Int) →
    ret (some (vi (M 1 6))) (S0, M)) ∧ 
  (x1 = ((4 : Nat) : Int) →
    (∃ v8 m7, cal 14 [vr 1] (S0, M) (some (vi v8), (S0, m7)) ∧
    ret (some (vi v8)) (S0, m7))) ∧ 
  (x1 = ((5 : Nat) : Int) →
    (∃ v10 m9, cal 13 [vr 1] (S0, M) (some (vi v10), (S0, m9)) ∧
    ret (some (vi v10)) (S0, m9))) ∧ True) ∧ ((x1 < 0 ∨ ((6 : Nat) : Int) ≤ x1) →
    ret (some (vi (-1))) (S0, M)))) :
  K 0 [(0, vr 0), (1, vi x1)] [] (S0, M) := by
  exact mQ hK [40, 48, 69, 78, 86, 94, 102] 8 0 0 b_L_rule_0 rfl _ _ _ h
set_option maxRecDepth 40000 in
theorem q_L_cell_0 {cal : mCal} {lim : Nat × Nat} {scr : Nat × (Nat → Int)} {ret : Option mVal → mHp → Prop} {K : Nat → mLV → List mVal → mHp → Prop} (hK : mClo m_L_cell cal lim scr ret K) (x1 : Int) (x2 : Int) (M : mMem) (h :
  (∃ v2 m1, cal 87 [vi x1, vi x2] (S0, M) (some (vi v2), (S0, m1)) ∧
  ((v2 = 0 →
    ret (some (vi (-1))) (S0, m1)) ∧ (¬ (v2 = 0) →
    (∃ v4 m3, cal 94 [vi x1, vi x2] (S0, m1) (some (vi v4), (S0, m3)) ∧
    mIn v4 36 (ret (some (vi (m3 2 v4))) (S0, m3))))))) :
  K 0 [(0, vr 0), (1, vi x1), (2, vi x2)] [] (S0, M) := by
  exact mQ hK [24, 25] 3 0 0 b_L_cell_0 rfl _ _ _ h
set_option maxRecDepth 40000 in
theorem q_L_thread_0 {cal : mCal} {lim : Nat × Nat} {scr : Nat × (Nat → Int)} {ret : Option mVal → mHp → Prop} {K : Nat → mLV → List mVal → mHp → Prop} (hK : mClo m_L_thread cal lim scr ret K) (x1 : Int) (M : mMem) (h :
  (∃ v2 m1, cal 88 [vi x1] (S0, M) (some (vi v2), (S0, m1)) ∧
  ((v2 = 0 →
    ret (some (vi (-1))) (S0, m1)) ∧ (¬ (v2 = 0) →
    mIn x1 4 (ret (some (vi (m1 3 x1))) (S0, m1)))))) :
  K 0 [(0, vr 0), (1, vi x1)] [] (S0, M) := by
  exact mQ hK [19, 20] 3 0 0 b_L_thread_0 rfl _ _ _ h
set_option maxRecDepth 40000 in
theorem q_L_law_0 {cal : mCal} {lim : Nat × Nat} {scr : Nat × (Nat → Int)} {ret : Option mVal → mHp → Prop} {K : Nat → mLV → List mVal → mHp → Prop} (hK : mClo m_L_law cal lim scr ret K) (x1 : Int) (x2 : Int) (M : mMem) (h :
  (∃ v2 m1, cal 92 [vr 0, vi x1] (S0, M) (some (vi v2), (S0, m1)) ∧
  ((v2 = 0 →
    ret (some (vi (-1))) (S0, m1)) ∧ (¬ (v2 = 0) →
    ((x2 < 0 →
      ret (some (vi (-1))) (S0, m1)) ∧ (¬ (x2 < 0) →
      ((x2 ≤ 5 →
        ((4 ≤ x2 →
          ((x2 ≠ 4 →
            (∃ v4 m3, cal 11 [vr 1, vi x1] (S0, m1) (some (vi v4), (S0, m3)) ∧
            ret (some (vi v4)) (S0, m3))) ∧ (¬ (x2 ≠ 4) →
            (∃ v6 m5, cal 10 [vr 1, vi x1] (S0, m1) (some (vi v6), (S0, m5)) ∧
            ret (some (vi v6)) (S0, m5))))) ∧ (¬ (4 ≤ x2) →
          mIn (w32 ((w32 (x1 * 4)) + x2)) 20 (ret (some (vi (m1 4 (w32 ((w32 (x1 * 4)) + x2))))) (S0, m1))))) ∧ (¬ (x2 ≤ 5) →
        ret (some (vi (-1))) (S0, m1))))))))) :
  K 0 [(0, vr 0), (1, vi x1), (2, vi x2)] [] (S0, M) := by
  exact mQ hK [17, 19, 38, 54, 62] 6 0 0 b_L_law_0 rfl _ _ _ h
set_option maxRecDepth 40000 in
theorem q_L_stitch_0 {cal : mCal} {lim : Nat × Nat} {scr : Nat × (Nat → Int)} {ret : Option mVal → mHp → Prop} {K : Nat → mLV → List mVal → mHp → Prop} (hK : mClo m_L_stitch cal lim scr ret K) (x1 : Int) (x2 : Int) (M : mMem) (h :
  ((x1 < 0 →
    ret (some (vi (-1))) (S0, M)) ∧ (¬ (x1 < 0) →
    ((x1 < (M 1 6) →
      (((x2 = ((0 : Nat) : Int) →
        mIn x1 8 (ret (some (vi (jdiv (M 5 x1) 6))) (S0, M))) ∧ 
      (x2 = ((1 : Nat) : Int) →
        mIn x1 8 (ret (some (vi (jrem (M 5 x1) 6))) (S0, M))) ∧ 
      (x2 = ((2 : Nat) : Int) →
        mIn x1 8 (ret (some (vi (M 6 x1))) (S0, M))) ∧ True) ∧ ((x2 < 0 ∨ ((3 : Nat) : Int) ≤ x2) →
        ret (some (vi (-1))) (S0, M)))) ∧ (¬ (x1 < (M 1 6)) →
      ret (some (vi (-1))) (S0, M)))))) :
  K 0 [(0, vr 0), (1, vi x1), (2, vi x2)] [] (S0, M) := by
  exact mQ hK [15, 17, 44, 57, 70, 80] 7 0 0 b_L_stitch_0 rfl _ _ _ h
set_option maxRecDepth 40000 in
theorem q_L_amend_0 {cal : mCal} {lim : Nat × Nat} {scr : Nat × (Nat → Int)} {ret : Option mVal → mHp → Prop} {K : Nat → mLV → List mVal → mHp → Prop} (hK : mClo m_L_amend cal lim scr ret K) (x1 : Int) (x2 : Int) (x3 : Int) (M : mMem) (h :
  (∃ v2 m1, cal 92 [vr 0, vi x1] (S0, M) (some (vi v2), (S0, m1)) ∧
  ((v2 = 0 →
    ret (some (vi (-1))) (S0, m1)) ∧ (¬ (v2 = 0) →
    (∃ v4 m3, cal 93 [vi x2, vi x3] (S0, m1) (some (vi v4), (S0, m3)) ∧
    ((v4 ≠ 0 →
      mIn (w32 ((w32 (x1 * 4)) + x2)) 20 (mIn (w32 ((w32 (x1 * 4)) + x2)) 20 (ret (some (vi (m3 4 (w32 ((w32 (x1 * 4)) + x2))))) (S0, mupd m3 4 (w32 ((w32 (x1 * 4)) + x2)) x3)))) ∧ (¬ (v4 ≠ 0) →
      ret (some (vi (-1))) (S0, m3)))))))) :
  K 0 [(0, vr 0), (1, vi x1), (2, vi x2), (3, vi x3)] [] (S0, M) := by
  exact mQ hK [16, 18] 3 0 0 b_L_amend_0 rfl _ _ _ h
set_option maxRecDepth 40000 in
theorem q_L_spool_0 {cal : mCal} {lim : Nat × Nat} {scr : Nat × (Nat → Int)} {ret : Option mVal → mHp → Prop} {K : Nat → mLV → List mVal → mHp → Prop} (hK : mClo m_L_spool cal lim scr ret K) (x1 : Int) (x2 : Int) (M : mMem) (h :
  (∃ v2 m1, cal 88 [vi x1] (S0, M) (some (vi v2), (S0, m1)) ∧
  ((v2 = 0 →
    ret (some (vi (-1))) (S0, m1)) ∧ (¬ (v2 = 0) →
    ((x2 < 0 →
      ret (some (vi (-1))) (S0, m1)) ∧ (¬ (x2 < 0) →
      ((x2 ≤ 99 →
        mIn x1 4 (mIn x1 4 (ret (some (vi (m1 3 x1))) (S0, mupd m1 3 x1 x2)))) ∧ (¬ (x2 ≤ 99) →
        ret (some (vi (-1))) (S0, m1))))))))) :
  K 0 [(0, vr 0), (1, vi x1), (2, vi x2)] [] (S0, M) := by
  exact mQ hK [17, 19] 3 0 0 b_L_spool_0 rfl _ _ _ h
set_option maxRecDepth 40000 in
theorem q_L_plan_0 {cal : mCal} {lim : Nat × Nat} {scr : Nat × (Nat → Int)} {ret : Option mVal → mHp → Prop} {K : Nat → mLV → List mVal → mHp → Prop} (hK : mClo m_L_plan cal lim scr ret K) (x1 : Int) (x2 : Int) (x3 : Int) (M : mMem) (h :
  (∃ v2 m1, cal 87 [vi x1, vi x2] (S0, M) (some (vi v2), (S0, m1)) ∧
  ((v2 = 0 →
    ret (some (vi (-1))) (S0, m1)) ∧ (¬ (v2 = 0) →
    (∃ v4 m3, cal 88 [vi x3] (S0, m1) (some (vi v4), (S0, m3)) ∧
    ((v4 ≠ 0 →
      (((m3 1 6) < 8 →
        (∃ v6 m5, cal 94 [vi x1, vi x2] (S0, m3) (some (vi v6), (S0, m5)) ∧
        mIn (m3 1 6) 8 (mIn ((mupd m5 5 (m3 1 6) v6) 1 6) 8 (ret (some (vi ((mupd (mupd (mupd m5 5 (m3 1 6) v6) 6 ((mupd m5 5 (m3 1 6) v6) 1 6) x3) 1 6 (w32 (((mupd (mupd m5 5 (m3 1 6) v6) 6 ((mupd m5 5 (m3 1 6) v6) 1 6) x3) 1 6) + 1))) 1 6))) (S0, mupd (mupd (mupd m5 5 (m3 1 6) v6) 6 ((mupd m5 5 (m3 1 6) v6) 1 6) x3) 1 6 (w32 (((mupd (mupd m5 5 (m3 1 6) v6) 6 ((mupd m5 5 (m3 1 6) v6) 1 6) x3) 1 6) + 1))))))) ∧ (¬ ((m3 1 6) < 8) →
        ret (some (vi (-3))) (S0, m3)))) ∧ (¬ (v4 ≠ 0) →
      ret (some (vi (-1))) (S0, m3)))))))) :
  K 0 [(0, vr 0), (1, vi x1), (2, vi x2), (3, vi x3)] [] (S0, M) := by
  exact mQ hK [15, 17, 32] 4 0 0 b_L_plan_0 rfl _ _ _ h
set_option maxRecDepth 40000 in
theorem q_L_cut_0 {cal : mCal} {lim : Nat × Nat} {scr : Nat × (Nat → Int)} {ret : Option mVal → mHp → Prop} {K : Nat → mLV → List mVal → mHp → Prop} (hK : mClo m_L_cut cal lim scr ret K) (x1 : Int) (M : mMem) (h :
  ((x1 < 0 →
    ret (some (vi (-1))) (S0, M)) ∧ (¬ (x1 < 0) →
    ((x1 ≤ (M 1 6) →
      ret (some (vi (M 1 6))) (S0, mupd M 1 6 x1)) ∧ (¬ (x1 ≤ (M 1 6)) →
      ret (some (vi (-1))) (S0, M)))))) :
  K 0 [(0, vr 0), (1, vi x1)] [] (S0, M) := by
  exact mQ hK [15, 17] 3 0 0 b_L_cut_0 rfl _ _ _ h
set_option maxRecDepth 40000 in
theorem q_L_enact_0 {cal : mCal} {lim : Nat × Nat} {scr : Nat × (Nat → Int)} {ret : Option mVal → mHp → Prop} {K : Nat → mLV → List mVal → mHp → Prop} (hK : mClo m_L_enact cal lim scr ret K) (x1 : Int) (x2 : Int) (x3 : Int) (x4 : Int) (M : mMem) (h :
  (∃ v2 m1, cal 93 [vi 0, vi x1] (S0, M) (some (vi v2), (S0, m1)) ∧
  ((v2 = 0 →
    ret (some (vi (-1))) (S0, m1)) ∧ (¬ (v2 = 0) →
    (∃ v4 m3, cal 93 [vi 1, vi x2] (S0, m1) (some (vi v4), (S0, m3)) ∧
    ((v4 = 0 →
      ret (some (vi (-1))) (S0, m3)) ∧ (¬ (v4 = 0) →
      (∃ v6 m5, cal 93 [vi 2, vi x3] (S0, m3) (some (vi v6), (S0, m5)) ∧
      ((v6 = 0 →
        ret (some (vi (-1))) (S0, m5)) ∧ (¬ (v6 = 0) →
        (∃ v8 m7, cal 93 [vi 3, vi x4] (S0, m5) (some (vi v8), (S0, m7)) ∧
        ((v8 ≠ 0 →
          (((m7 1 5) < 5 →
            (∃ m9, cal 9 [vr 1, vi x1, vi x2, vi x3, vi x4] (S0, m7) (none, (S0, m9)) ∧
            ret (some (vi (m9 1 5))) (S0, m9))) ∧ (¬ ((m7 1 5) < 5) →
            ret (some (vi (-3))) (S0, m7)))) ∧ (¬ (v8 ≠ 0) →
          ret (some (vi (-1))) (S0, m7)))))))))))))) :
  K 0 [(0, vr 0), (1, vi x1), (2, vi x2), (3, vi x3), (4, vi x4)] [] (S0, M) := by
  exact mQ hK [33, 35, 49] 4 0 0 b_L_enact_0 rfl _ _ _ h
set_option maxRecDepth 40000 in
theorem q_L_work_0 {cal : mCal} {lim : Nat × Nat} {scr : Nat × (Nat → Int)} {ret : Option mVal → mHp → Prop} {K : Nat → mLV → List mVal → mHp → Prop} (hK : mClo m_L_work cal lim scr ret K) (x1 : Int) (x2 : Int) (x3 : Int) (M : mMem) (h :
  (∃ v2 m1, cal 87 [vi x1, vi x2] (S0, M) (some (vi v2), (S0, m1)) ∧
  ((v2 = 0 →
    ret (some (vi (-1))) (S0, m1)) ∧ (¬ (v2 = 0) →
    (∃ v4 m3, cal 88 [vi x3] (S0, m1) (some (vi v4), (S0, m3)) ∧
    ((v4 ≠ 0 →
      (∃ v6 m5, cal 94 [vi x1, vi x2] (S0, m3) (some (vi v6), (S0, m5)) ∧
      (∃ v8 m7, cal 5 [vr 1, vi v6, vi x3] (S0, m5) (some (vi v8), (S0, m7)) ∧
      ((v8 ≠ 0 →
        (∃ m9, cal 6 [vr 1, vi v6, vi x3] (S0, m7) (none, (S0, m9)) ∧
        (∃ v11 m10, cal 13 [vr 1] (S0, m9) (some (vi v11), (S0, m10)) ∧
        ret (some (vi v11)) (S0, m10)))) ∧ (¬ (v8 ≠ 0) →
        ret (some (vi (-2))) (S0, m7)))))) ∧ (¬ (v4 ≠ 0) →
      ret (some (vi (-1))) (S0, m3)))))))) :
  K 0 [(0, vr 0), (1, vi x1), (2, vi x2), (3, vi x3)] [] (S0, M) := by
  exact mQ hK [15, 17, 40] 4 0 0 b_L_work_0 rfl _ _ _ h
set_option maxRecDepth 40000 in
theorem q_L_unpick_0 {cal : mCal} {lim : Nat × Nat} {scr : Nat × (Nat → Int)} {ret : Option mVal → mHp → Prop} {K : Nat → mLV → List mVal → mHp → Prop} (hK : mClo m_L_unpick cal lim scr ret K) (x1 : Int) (x2 : Int) (M : mMem) (h :
  (∃ v2 m1, cal 87 [vi x1, vi x2] (S0, M) (some (vi v2), (S0, m1)) ∧
  ((v2 ≠ 0 →
    (∃ v4 m3, cal 94 [vi x1, vi x2] (S0, m1) (some (vi v4), (S0, m3)) ∧
    mIn v4 36 ((∃ v6 m5, cal 88 [vi (m3 2 v4)] (S0, m3) (some (vi v6), (S0, m5)) ∧
    ((v6 ≠ 0 →
      (∃ m7, cal 3 [vr 1, vi v4, vi 0] (S0, m5) (none, (S0, m7)) ∧
      ret (some (vi (m3 2 v4))) (S0, m7))) ∧ (¬ (v6 ≠ 0) →
      ret (some (vi (-2))) (S0, m5))))))) ∧ (¬ (v2 ≠ 0) →
    ret (some (vi (-1))) (S0, m1))))) :
  K 0 [(0, vr 0), (1, vi x1), (2, vi x2)] [] (S0, M) := by
  exact mQ hK [10, 38] 3 0 0 b_L_unpick_0 rfl _ _ _ h
set_option maxRecDepth 40000 in
theorem q_L_moth_0 {cal : mCal} {lim : Nat × Nat} {scr : Nat × (Nat → Int)} {ret : Option mVal → mHp → Prop} {K : Nat → mLV → List mVal → mHp → Prop} (hK : mClo m_L_moth cal lim scr ret K) (x1 : Int) (x2 : Int) (M : mMem) (h :
  (∃ v2 m1, cal 87 [vi x1, vi x2] (S0, M) (some (vi v2), (S0, m1)) ∧
  ((v2 ≠ 0 →
    (∃ v4 m3, cal 94 [vi x1, vi x2] (S0, m1) (some (vi v4), (S0, m3)) ∧
    mIn v4 36 ((((m3 2 v4) ≠ 4 →
      (∃ m5, cal 3 [vr 1, vi v4, vi 4] (S0, m3) (none, (S0, m5)) ∧
      ret (some (vi (m3 2 v4))) (S0, m5))) ∧ (¬ ((m3 2 v4) ≠ 4) →
      ret (some (vi (-2))) (S0, m3)))))) ∧ (¬ (v2 ≠ 0) →
    ret (some (vi (-1))) (S0, m1))))) :
  K 0 [(0, vr 0), (1, vi x1), (2, vi x2)] [] (S0, M) := by
  exact mQ hK [10, 36] 3 0 0 b_L_moth_0 rfl _ _ _ h
set_option maxRecDepth 40000 in
theorem q_L_mend_0 {cal : mCal} {lim : Nat × Nat} {scr : Nat × (Nat → Int)} {ret : Option mVal → mHp → Prop} {K : Nat → mLV → List mVal → mHp → Prop} (hK : mClo m_L_mend cal lim scr ret K) (x1 : Int) (x2 : Int) (M : mMem) (h :
  (∃ v2 m1, cal 87 [vi x1, vi x2] (S0, M) (some (vi v2), (S0, m1)) ∧
  ((v2 ≠ 0 →
    (∃ v4 m3, cal 94 [vi x1, vi x2] (S0, m1) (some (vi v4), (S0, m3)) ∧
    mIn v4 36 ((((m3 2 v4) = 4 →
      (∃ m5, cal 3 [vr 1, vi v4, vi 0] (S0, m3) (none, (S0, m5)) ∧
      (∃ v7 m6, cal 15 [vr 1, vi 4] (S0, m5) (some (vi v7), (S0, m6)) ∧
      ret (some (vi v7)) (S0, m6)))) ∧ (¬ ((m3 2 v4) = 4) →
      ret (some (vi (-2))) (S0, m3)))))) ∧ (¬ (v2 ≠ 0) →
    ret (some (vi (-1))) (S0, m1))))) :
  K 0 [(0, vr 0), (1, vi x1), (2, vi x2)] [] (S0, M) := by
  exact mQ hK [10, 32] 3 0 0 b_L_mend_0 rfl _ _ _ h
set_option maxRecDepth 40000 in
theorem q_L_runs_0 {cal : mCal} {lim : Nat × Nat} {scr : Nat × (Nat → Int)} {ret : Option mVal → mHp → Prop} {K : Nat → mLV → List mVal → mHp → Prop} (hK : mClo m_L_runs cal lim scr ret K) (x1 : Int) (M : mMem) (h :
  ((x1 < 0 →
    ret (some (vi (-1))) (S0, M)) ∧ (¬ (x1 < 0) →
    ((x1 ≤ 3 →
      (∃ m1, cal 96 [vr 0, vi (-4)] (S0, M) (none, (S0, m1)) ∧
      (((x1 = ((0 : Nat) : Int) →
        (∃ v3 m2, cal 13 [vr 9] (S0, m1) (some (vi v3), (S0, m2)) ∧
        ret (some (vi v3)) (S0, m2))) ∧ 
      (x1 = ((1 : Nat) : Int) →
        (∃ v5 m4, cal 14 [vr 9] (S0, m1) (some (vi v5), (S0, m4)) ∧
        ret (some (vi v5)) (S0, m4))) ∧ 
      (x1 = ((2 : Nat) : Int) →
        ret (some (vi (m1 9 7))) (S0, m1)) ∧ True) ∧ ((x1 < 0 ∨ ((3 : Nat) : Int) ≤ x1) →
        ret (some (vi (m1 9 8))) (S0, m1))))) ∧ (¬ (x1 ≤ 3) →
      ret (some (vi (-1))) (S0, M)))))) :
  K 0 [(0, vr 0), (1, vi x1)] [] (S0, M) := by
  exact mQ hK [9, 11, 44, 52, 60, 68] 7 0 0 b_L_runs_0 rfl _ _ _ h
set_option maxRecDepth 40000 in
theorem q_L_ahead_0 {cal : mCal} {lim : Nat × Nat} {scr : Nat × (Nat → Int)} {ret : Option mVal → mHp → Prop} {K : Nat → mLV → List mVal → mHp → Prop} (hK : mClo m_L_ahead cal lim scr ret K) (x1 : Int) (x2 : Int) (M : mMem) (h :
  (∃ v2 m1, cal 87 [vi x1, vi x2] (S0, M) (some (vi v2), (S0, m1)) ∧
  ((v2 ≠ 0 →
    (∃ m3, cal 96 [vr 0, vi (-4)] (S0, m1) (none, (S0, m3)) ∧
    (∃ v5 m4, cal 94 [vi x1, vi x2] (S0, m3) (some (vi v5), (S0, m4)) ∧
    mIn v5 36 (ret (some (vi (m4 10 v5))) (S0, m4))))) ∧ (¬ (v2 ≠ 0) →
    ret (some (vi (-1))) (S0, m1))))) :
  K 0 [(0, vr 0), (1, vi x1), (2, vi x2)] [] (S0, M) := by
  exact mQ hK [10] 2 0 0 b_L_ahead_0 rfl _ _ _ h
set_option maxRecDepth 40000 in
theorem q_L_best_0 {cal : mCal} {lim : Nat × Nat} {scr : Nat × (Nat → Int)} {ret : Option mVal → mHp → Prop} {K : Nat → mLV → List mVal → mHp → Prop} (hK : mClo m_L_best cal lim scr ret K) (x1 : Int) (M : mMem) (h :
  (∃ v2 m1, cal 89 [vi x1] (S0, M) (some (vi v2), (S0, m1)) ∧
  ((v2 ≠ 0 →
    (∃ m3, cal 2 [vr 9, vr 1] (S0, m1) (none, (S0, m3)) ∧
    (∃ v5 m4, cal 13 [vr 9] (S0, m3) (some (vi v5), (S0, m4)) ∧
    (∃ m6, cal 21 [vr 37, vi v5] (S0, m4) (none, (S0, m6)) ∧
    K 36 [(0, vr 0), (1, vi x1), (2, vi 0)] [] (S0, m6))))) ∧ (¬ (v2 ≠ 0) →
    ret (some (vi (-1))) (S0, m1))))) :
  K 0 [(0, vr 0), (1, vi x1)] [] (S0, M) := by
  exact mQ hK [9, 98, 104, 110] 5 0 0 b_L_best_0 rfl _ _ _ h
set_option maxRecDepth 40000 in
theorem q_L_best_36 {cal : mCal} {lim : Nat × Nat} {scr : Nat × (Nat → Int)} {ret : Option mVal → mHp → Prop} {K : Nat → mLV → List mVal → mHp → Prop} (hK : mClo m_L_best cal lim scr ret K) (x1 : Int) (x2 : Int) (M : mMem) (h :
  ((36 ≤ x2 →
    (∃ v2 m1, cal 23 [vr 37, vi x1] (S0, M) (some (vi v2), (S0, m1)) ∧
    ret (some (vi v2)) (S0, m1))) ∧ (¬ (36 ≤ x2) →
    K 44 [(0, vr 0), (1, vi x1), (2, vi x2), (3, vi 1)] [] (S0, M)))) :
  K 36 [(0, vr 0), (1, vi x1), (2, vi x2)] [] (S0, M) := by
  exact mQ hK [9, 98, 104, 110] 5 2 36 b_L_best_36 rfl _ _ _ h
set_option maxRecDepth 40000 in
theorem q_L_best_44 {cal : mCal} {lim : Nat × Nat} {scr : Nat × (Nat → Int)} {ret : Option mVal → mHp → Prop} {K : Nat → mLV → List mVal → mHp → Prop} (hK : mClo m_L_best cal lim scr ret K) (x1 : Int) (x2 : Int) (x3 : Int) (M : mMem) (h :
  ((3 < x3 →
    K 36 [(0, vr 0), (1, vi x1), (2, vi (w32 (x2 + 1)))] [] (S0, M)) ∧ (¬ (3 < x3) →
    (∃ v2 m1, cal 5 [vr 9, vi x2, vi x3] (S0, M) (some (vi v2), (S0, m1)) ∧
    ((v2 = 0 →
      K 44 [(0, vr 0), (1, vi x1), (2, vi x2), (3, vi (w32 (x3 + 1)))] [] (S0, m1)) ∧ (¬ (v2 = 0) →
      (∃ m3, cal 3 [vr 9, vi x2, vi x3] (S0, m1) (none, (S0, m3)) ∧
      (∃ v5 m4, cal 95 [vi x2, vi x3] (S0, m3) (some (vi v5), (S0, m4)) ∧
      (∃ v7 m6, cal 13 [vr 9] (S0, m4) (some (vi v7), (S0, m6)) ∧
      (∃ m8, cal 22 [vr 37, vi v5, vi v7] (S0, m6) (none, (S0, m8)) ∧
      (∃ m9, cal 3 [vr 9, vi x2, vi 0] (S0, m8) (none, (S0, m9)) ∧
      K 44 [(0, vr 0), (1, vi x1), (2, vi x2), (3, vi (w32 (x3 + 1)))] [] (S0, m9)))))))))))) :
  K 44 [(0, vr 0), (1, vi x1), (2, vi x2), (3, vi x3)] [] (S0, M) := by
  exact mQ hK [9, 98, 104, 110] 5 3 44 b_L_best_44 rfl _ _ _ h
set_option maxRecDepth 40000 in
theorem q_L_need_0 {cal : mCal} {lim : Nat × Nat} {scr : Nat × (Nat → Int)} {ret : Option mVal → mHp → Prop} {K : Nat → mLV → List mVal → mHp → Prop} (hK : mClo m_L_need cal lim scr ret K) (x1 : Int) (x2 : Int) (M : mMem) (h :
  (∃ v2 m1, cal 92 [vr 0, vi x1] (S0, M) (some (vi v2), (S0, m1)) ∧
  ((v2 = 0 →
    ret (some (vi (-1))) (S0, m1)) ∧ (¬ (v2 = 0) →
    ((x2 = 0 →
      K 26 [(0, vr 0), (1, vi x1), (2, vi x2)] [] (S0, m1)) ∧ (¬ (x2 = 0) →
      ((x2 = 10 →
        K 26 [(0, vr 0), (1, vi x1), (2, vi x2)] [] (S0, m1)) ∧ (¬ (x2 = 10) →
        ((x2 = 11 →
          K 26 [(0, vr 0), (1, vi x1), (2, vi x2)] [] (S0, m1)) ∧ (¬ (x2 = 11) →
          ret (some (vi (-1))) (S0, m1))))))))))) :
  K 0 [(0, vr 0), (1, vi x1), (2, vi x2)] [] (S0, M) := by
  exact mQ hK [24, 42, 44, 66, 68] 6 0 0 b_L_need_0 rfl _ _ _ h
set_option maxRecDepth 40000 in
theorem q_L_need_26 {cal : mCal} {lim : Nat × Nat} {scr : Nat × (Nat → Int)} {ret : Option mVal → mHp → Prop} {K : Nat → mLV → List mVal → mHp → Prop} (hK : mClo m_L_need cal lim scr ret K) (x1 : Int) (x2 : Int) (M : mMem) (h :
  (∃ v2 m1, cal 97 [vr 0, vi x1] (S0, M) (some (vi v2), (S0, m1)) ∧
  ((v2 = (-4) →
    ret (some (vi v2)) (S0, m1)) ∧ (¬ (v2 = (-4)) →
    ((x2 ≠ 0 →
      ((v2 ≤ (w32 (x2 - 10)) →
        ret (some (vi (-4))) (S0, m1)) ∧ (¬ (v2 ≤ (w32 (x2 - 10))) →
        mIn (w32 (x2 - 10)) 2 (ret (some (vi (m1 39 (w32 (x2 - 10))))) (S0, m1))))) ∧ (¬ (x2 ≠ 0) →
      ret (some (vi v2)) (S0, m1))))))) :
  K 26 [(0, vr 0), (1, vi x1), (2, vi x2)] [] (S0, M) := by
  exact mQ hK [24, 42, 44, 66, 68] 6 2 26 b_L_need_26 rfl _ _ _ h
set_option maxRecDepth 40000 in
theorem q_L_loose_0 {cal : mCal} {lim : Nat × Nat} {scr : Nat × (Nat → Int)} {ret : Option mVal → mHp → Prop} {K : Nat → mLV → List mVal → mHp → Prop} (hK : mClo m_L_loose cal lim scr ret K) (x1 : Int) (x2 : Int) (M : mMem) (h :
  (∃ v2 m1, cal 92 [vr 0, vi x1] (S0, M) (some (vi v2), (S0, m1)) ∧
  ((v2 = 0 →
    ret (some (vi (-1))) (S0, m1)) ∧ (¬ (v2 = 0) →
    (∃ v4 m3, cal 89 [vi x2] (S0, m1) (some (vi v4), (S0, m3)) ∧
    ((v4 ≠ 0 →
      (∃ m5, cal 2 [vr 9, vr 1] (S0, m3) (none, (S0, m5)) ∧
      (∃ v7 m6, cal 10 [vr 9, vi x1] (S0, m5) (some (vi v7), (S0, m6)) ∧
      (∃ m8, cal 21 [vr 37, vi (w32 (-v7))] (S0, m6) (none, (S0, m8)) ∧
      K 46 [(0, vr 0), (1, vi x1), (2, vi x2), (3, vi 0)] [] (S0, m8))))) ∧ (¬ (v4 ≠ 0) →
      ret (some (vi (-1))) (S0, m3)))))))) :
  K 0 [(0, vr 0), (1, vi x1), (2, vi x2)] [] (S0, M) := by
  exact mQ hK [15, 17, 118, 124, 140, 148] 7 0 0 b_L_loose_0 rfl _ _ _ h
set_option maxRecDepth 40000 in
theorem q_L_loose_46 {cal : mCal} {lim : Nat × Nat} {scr : Nat × (Nat → Int)} {ret : Option mVal → mHp → Prop} {K : Nat → mLV → List mVal → mHp → Prop} (hK : mClo m_L_loose cal lim scr ret K) (x1 : Int) (x2 : Int) (x3 : Int) (M : mMem) (h :
  ((36 ≤ x3 →
    (((M 37 0) = (-4) →
      ret (some (vi (M 37 0))) (S0, M)) ∧ (¬ ((M 37 0) = (-4)) →
      ((x2 ≠ 0 →
        ret (some (vi (w32 (-(M 37 1))))) (S0, M)) ∧ (¬ (x2 ≠ 0) →
        ret (some (vi (M 37 0))) (S0, M)))))) ∧ (¬ (36 ≤ x3) →
    mIn x3 36 ((∃ v2 m1, cal 88 [vi (M 10 x3)] (S0, M) (some (vi v2), (S0, m1)) ∧
    ((v2 = 0 →
      K 46 [(0, vr 0), (1, vi x1), (2, vi x2), (3, vi (w32 (x3 + 1)))] [] (S0, m1)) ∧ (¬ (v2 = 0) →
      (∃ m3, cal 3 [vr 9, vi x3, vi 0] (S0, m1) (none, (S0, m3)) ∧
      (∃ v5 m4, cal 10 [vr 9, vi x1] (S0, m3) (some (vi v5), (S0, m4)) ∧
      (∃ m6, cal 22 [vr 37, vi (w32 ((w32 (10 * (jdiv x3 6))) + (jrem x3 6))), vi (w32 (-v5))] (S0, m4) (none, (S0, m6)) ∧
      (∃ m7, cal 3 [vr 9, vi x3, vi (M 10 x3)] (S0, m6) (none, (S0, m7)) ∧
      K 46 [(0, vr 0), (1, vi x1), (2, vi x2), (3, vi (w32 (x3 + 1)))] [] (S0, m7)))))))))))) :
  K 46 [(0, vr 0), (1, vi x1), (2, vi x2), (3, vi x3)] [] (S0, M) := by
  exact mQ hK [15, 17, 118, 124, 140, 148] 7 3 46 b_L_loose_46 rfl _ _ _ h
set_option maxRecDepth 40000 in
theorem q_L_dye_0 {cal : mCal} {lim : Nat × Nat} {scr : Nat × (Nat → Int)} {ret : Option mVal → mHp → Prop} {K : Nat → mLV → List mVal → mHp → Prop} (hK : mClo m_L_dye cal lim scr ret K) (x1 : Int) (M : mMem) (h :
  (∃ v2 m1, cal 89 [vi x1] (S0, M) (some (vi v2), (S0, m1)) ∧
  ((v2 ≠ 0 →
    (∃ m3, cal 2 [vr 9, vr 1] (S0, m1) (none, (S0, m3)) ∧
    (∃ v5 m4, cal 13 [vr 9] (S0, m3) (some (vi v5), (S0, m4)) ∧
    (∃ m6, cal 21 [vr 37, vi v5] (S0, m4) (none, (S0, m6)) ∧
    K 36 [(0, vr 0), (1, vi x1), (2, vi 1)] [] (S0, m6))))) ∧ (¬ (v2 ≠ 0) →
    ret (some (vi (-1))) (S0, m1))))) :
  K 0 [(0, vr 0), (1, vi x1)] [] (S0, M) := by
  exact mQ hK [9, 94, 100] 4 0 0 b_L_dye_0 rfl _ _ _ h
set_option maxRecDepth 40000 in
theorem q_L_dye_36 {cal : mCal} {lim : Nat × Nat} {scr : Nat × (Nat → Int)} {ret : Option mVal → mHp → Prop} {K : Nat → mLV → List mVal → mHp → Prop} (hK : mClo m_L_dye cal lim scr ret K) (x1 : Int) (x2 : Int) (M : mMem) (h :
  ((3 ≤ x2 →
    (∃ v2 m1, cal 23 [vr 37, vi x1] (S0, M) (some (vi v2), (S0, m1)) ∧
    ret (some (vi v2)) (S0, m1))) ∧ (¬ (3 ≤ x2) →
    K 45 [(0, vr 0), (1, vi x1), (2, vi x2), (3, vi (w32 (x2 + 1)))] [] (S0, M)))) :
  K 36 [(0, vr 0), (1, vi x1), (2, vi x2)] [] (S0, M) := by
  exact mQ hK [9, 94, 100] 4 2 36 b_L_dye_36 rfl _ _ _ h
set_option maxRecDepth 40000 in
theorem q_L_dye_45 {cal : mCal} {lim : Nat × Nat} {scr : Nat × (Nat → Int)} {ret : Option mVal → mHp → Prop} {K : Nat → mLV → List mVal → mHp → Prop} (hK : mClo m_L_dye cal lim scr ret K) (x1 : Int) (x2 : Int) (x3 : Int) (M : mMem) (h :
  ((3 < x3 →
    K 36 [(0, vr 0), (1, vi x1), (2, vi (w32 (x2 + 1)))] [] (S0, M)) ∧ (¬ (3 < x3) →
    (∃ m1, cal 18 [vr 9, vi x2, vi x3] (S0, M) (none, (S0, m1)) ∧
    (∃ v3 m2, cal 13 [vr 9] (S0, m1) (some (vi v3), (S0, m2)) ∧
    (∃ m4, cal 22 [vr 37, vi (w32 ((w32 (10 * x2)) + x3)), vi v3] (S0, m2) (none, (S0, m4)) ∧
    (∃ m5, cal 18 [vr 9, vi x2, vi x3] (S0, m4) (none, (S0, m5)) ∧
    K 45 [(0, vr 0), (1, vi x1), (2, vi x2), (3, vi (w32 (x3 + 1)))] [] (S0, m5)))))))) :
  K 45 [(0, vr 0), (1, vi x1), (2, vi x2), (3, vi x3)] [] (S0, M) := by
  exact mQ hK [9, 94, 100] 4 3 45 b_L_dye_45 rfl _ _ _ h
set_option maxRecDepth 40000 in
theorem q_L_turn_0 {cal : mCal} {lim : Nat × Nat} {scr : Nat × (Nat → Int)} {ret : Option mVal → mHp → Prop} {K : Nat → mLV → List mVal → mHp → Prop} (hK : mClo m_L_turn cal lim scr ret K) (x1 : Int) (M : mMem) (h :
  (∃ v2 m1, cal 89 [vi x1] (S0, M) (some (vi v2), (S0, m1)) ∧
  ((v2 ≠ 0 →
    (∃ m3, cal 2 [vr 9, vr 1] (S0, m1) (none, (S0, m3)) ∧
    (∃ v5 m4, cal 13 [vr 9] (S0, m3) (some (vi v5), (S0, m4)) ∧
    (∃ m6, cal 21 [vr 37, vi v5] (S0, m4) (none, (S0, m6)) ∧
    K 36 [(0, vr 0), (1, vi x1), (2, vi 0)] [] (S0, m6))))) ∧ (¬ (v2 ≠ 0) →
    ret (some (vi (-1))) (S0, m1))))) :
  K 0 [(0, vr 0), (1, vi x1)] [] (S0, M) := by
  exact mQ hK [9, 79] 3 0 0 b_L_turn_0 rfl _ _ _ h
set_option maxRecDepth 40000 in
theorem q_L_turn_36 {cal : mCal} {lim : Nat × Nat} {scr : Nat × (Nat → Int)} {ret : Option mVal → mHp → Prop} {K : Nat → mLV → List mVal → mHp → Prop} (hK : mClo m_L_turn cal lim scr ret K) (x1 : Int) (x2 : Int) (M : mMem) (h :
  ((6 ≤ x2 →
    (∃ v2 m1, cal 23 [vr 37, vi x1] (S0, M) (some (vi v2), (S0, m1)) ∧
    ret (some (vi v2)) (S0, m1))) ∧ (¬ (6 ≤ x2) →
    (∃ m3, cal 19 [vr 9, vi x2] (S0, M) (none, (S0, m3)) ∧
    (∃ v5 m4, cal 13 [vr 9] (S0, m3) (some (vi v5), (S0, m4)) ∧
    (∃ m6, cal 22 [vr 37, vi x2, vi v5] (S0, m4) (none, (S0, m6)) ∧
    (∃ m7, cal 19 [vr 9, vi x2] (S0, m6) (none, (S0, m7)) ∧
    K 36 [(0, vr 0), (1, vi x1), (2, vi (w32 (x2 + 1)))] [] (S0, m7)))))))) :
  K 36 [(0, vr 0), (1, vi x1), (2, vi x2)] [] (S0, M) := by
  exact mQ hK [9, 79] 3 2 36 b_L_turn_36 rfl _ _ _ h
set_option maxRecDepth 40000 in
theorem q_L_leave_0 {cal : mCal} {lim : Nat × Nat} {scr : Nat × (Nat → Int)} {ret : Option mVal → mHp → Prop} {K : Nat → mLV → List mVal → mHp → Prop} (hK : mClo m_L_leave cal lim scr ret K) (x1 : Int) (M : mMem) (h :
  (∃ v2 m1, cal 89 [vi x1] (S0, M) (some (vi v2), (S0, m1)) ∧
  ((v2 ≠ 0 →
    (∃ m3, cal 96 [vr 0, vi (-4)] (S0, m1) (none, (S0, m3)) ∧
    (∃ v5 m4, cal 13 [vr 9] (S0, m3) (some (vi v5), (S0, m4)) ∧
    (∃ m6, cal 21 [vr 37, vi v5] (S0, m4) (none, (S0, m6)) ∧
    K 31 [(0, vr 0), (1, vi x1), (2, vi 0)] [] (S0, m6))))) ∧ (¬ (v2 ≠ 0) →
    ret (some (vi (-1))) (S0, m1))))) :
  K 0 [(0, vr 0), (1, vi x1)] [] (S0, M) := by
  exact mQ hK [9, 68] 3 0 0 b_L_leave_0 rfl _ _ _ h
set_option maxRecDepth 40000 in
theorem q_L_leave_31 {cal : mCal} {lim : Nat × Nat} {scr : Nat × (Nat → Int)} {ret : Option mVal → mHp → Prop} {K : Nat → mLV → List mVal → mHp → Prop} (hK : mClo m_L_leave cal lim scr ret K) (x1 : Int) (x2 : Int) (M : mMem) (h :
  (((M 1 6) ≤ x2 →
    (∃ v2 m1, cal 23 [vr 37, vi x1] (S0, M) (some (vi v2), (S0, m1)) ∧
    ret (some (vi v2)) (S0, m1))) ∧ (¬ ((M 1 6) ≤ x2) →
    (∃ m3, cal 96 [vr 0, vi x2] (S0, M) (none, (S0, m3)) ∧
    (∃ v5 m4, cal 13 [vr 9] (S0, m3) (some (vi v5), (S0, m4)) ∧
    (∃ m6, cal 22 [vr 37, vi x2, vi v5] (S0, m4) (none, (S0, m6)) ∧
    K 31 [(0, vr 0), (1, vi x1), (2, vi (w32 (x2 + 1)))] [] (S0, m6))))))) :
  K 31 [(0, vr 0), (1, vi x1), (2, vi x2)] [] (S0, M) := by
  exact mQ hK [9, 68] 3 2 31 b_L_leave_31 rfl _ _ _ h
set_option maxRecDepth 40000 in
theorem q_L_luck_0 {cal : mCal} {lim : Nat × Nat} {scr : Nat × (Nat → Int)} {ret : Option mVal → mHp → Prop} {K : Nat → mLV → List mVal → mHp → Prop} (hK : mClo m_L_luck cal lim scr ret K) (x1 : Int) (x2 : Int) (x3 : Int) (M : mMem) (h :
  ((x1 < 0 →
    ret (some (vl (-1))) (S0, M)) ∧ (¬ (x1 < 0) →
    ((10 < x1 →
      ret (some (vl (-1))) (S0, M)) ∧ (¬ (10 < x1) →
      (∃ v2 m1, cal 92 [vr 0, vi x2] (S0, M) (some (vi v2), (S0, m1)) ∧
      ((v2 = 0 →
        ret (some (vl (-1))) (S0, m1)) ∧ (¬ (v2 = 0) →
        (∃ v4 m3, cal 89 [vi x3] (S0, m1) (some (vi v4), (S0, m3)) ∧
        ((v4 ≠ 0 →
          (∃ v6 m5, cal 104 [vr 0] (S0, m3) (some (vi v6), (S0, m5)) ∧
          ((v6 ≠ 0 →
            K 54 [(0, vr 0), (1, vi x1), (2, vi x2), (3, vi x3), (4, vl (0 : Nat)), (6, vi (jshl 1 (m5 0 15))), (7, vi 0)] [] (S0, m5)) ∧ (¬ (v6 ≠ 0) →
            ret (some (vl (-2))) (S0, m5))))) ∧ (¬ (v4 ≠ 0) →
          ret (some (vl (-1))) (S0, m3)))))))))))) :
  K 0 [(0, vr 0), (1, vi x1), (2, vi x2), (3, vi x3)] [] (S0, M) := by
  exact mQ hK [25, 29, 40, 90, 96] 6 0 0 b_L_luck_0 rfl _ _ _ h
set_option maxRecDepth 40000 in
theorem q_L_luck_54 {cal : mCal} {lim : Nat × Nat} {scr : Nat × (Nat → Int)} {ret : Option mVal → mHp → Prop} {K : Nat → mLV → List mVal → mHp → Prop} (hK : mClo m_L_luck cal lim scr ret K) (x1 : Int) (x2 : Int) (x3 : Int) (y4 : Int) (x6 : Int) (x7 : Int) (M : mMem) (h :
  ((x6 ≤ x7 →
    (∃ v2 m1, cal 107 [vr 0, vl y4, vi x3] (S0, M) (some (vl v2), (S0, m1)) ∧
    ret (some (vl v2)) (S0, m1))) ∧ (¬ (x6 ≤ x7) →
    (∃ m3, cal 105 [vr 0, vi x7] (S0, M) (none, (S0, m3)) ∧
    (∃ v5 m4, cal 10 [vr 9, vi x2] (S0, m3) (some (vi v5), (S0, m4)) ∧
    ((v5 ≤ 0 →
      K 54 [(0, vr 0), (1, vi x1), (2, vi x2), (3, vi x3), (4, vl y4), (6, vi x6), (7, vi (w32 (x7 + 1)))] [] (S0, m4)) ∧ (¬ (v5 ≤ 0) →
      (∃ v7 m6, cal 106 [vr 0, vi x7, vi x1] (S0, m4) (some (vl v7), (S0, m6)) ∧
      K 54 [(0, vr 0), (1, vi x1), (2, vi x2), (3, vi x3), (4, vl (w64 (y4 + v7))), (6, vi x6), (7, vi (w32 (x7 + 1)))] [] (S0, m6))))))))) :
  K 54 [(0, vr 0), (1, vi x1), (2, vi x2), (3, vi x3), (4, vl y4), (6, vi x6), (7, vi x7)] [] (S0, M) := by
  exact mQ hK [25, 29, 40, 90, 96] 6 4 54 b_L_luck_54 rfl _ _ _ h
set_option maxRecDepth 40000 in
theorem q_L_mean_0 {cal : mCal} {lim : Nat × Nat} {scr : Nat × (Nat → Int)} {ret : Option mVal → mHp → Prop} {K : Nat → mLV → List mVal → mHp → Prop} (hK : mClo m_L_mean cal lim scr ret K) (x1 : Int) (x2 : Int) (M : mMem) (h :
  ((x1 < 0 →
    ret (some (vl (-1))) (S0, M)) ∧ (¬ (x1 < 0) →
    ((10 < x1 →
      ret (some (vl (-1))) (S0, M)) ∧ (¬ (10 < x1) →
      (∃ v2 m1, cal 89 [vi x2] (S0, M) (some (vi v2), (S0, m1)) ∧
      ((v2 ≠ 0 →
        (∃ v4 m3, cal 104 [vr 0] (S0, m1) (some (vi v4), (S0, m3)) ∧
        ((v4 ≠ 0 →
          K 45 [(0, vr 0), (1, vi x1), (2, vi x2), (3, vl (0 : Nat)), (5, vi (jshl 1 (m3 0 15))), (6, vi 0)] [] (S0, m3)) ∧ (¬ (v4 ≠ 0) →
          ret (some (vl (-2))) (S0, m3))))) ∧ (¬ (v2 ≠ 0) →
        ret (some (vl (-1))) (S0, m1))))))))) :
  K 0 [(0, vr 0), (1, vi x1), (2, vi x2)] [] (S0, M) := by
  exact mQ hK [17, 21, 32, 83] 5 0 0 b_L_mean_0 rfl _ _ _ h
set_option maxRecDepth 40000 in
theorem q_L_mean_45 {cal : mCal} {lim : Nat × Nat} {scr : Nat × (Nat → Int)} {ret : Option mVal → mHp → Prop} {K : Nat → mLV → List mVal → mHp → Prop} (hK : mClo m_L_mean cal lim scr ret K) (x1 : Int) (x2 : Int) (y3 : Int) (x5 : Int) (x6 : Int) (M : mMem) (h :
  ((x5 ≤ x6 →
    (∃ v2 m1, cal 107 [vr 0, vl y3, vi x2] (S0, M) (some (vl v2), (S0, m1)) ∧
    ret (some (vl v2)) (S0, m1))) ∧ (¬ (x5 ≤ x6) →
    (∃ m3, cal 105 [vr 0, vi x6] (S0, M) (none, (S0, m3)) ∧
    (∃ v5 m4, cal 106 [vr 0, vi x6, vi x1] (S0, m3) (some (vl v5), (S0, m4)) ∧
    (∃ v7 m6, cal 13 [vr 9] (S0, m4) (some (vi v7), (S0, m6)) ∧
    K 45 [(0, vr 0), (1, vi x1), (2, vi x2), (3, vl (w64 (y3 + (w64 (v5 * v7))))), (5, vi x5), (6, vi (w32 (x6 + 1)))] [] (S0, m6))))))) :
  K 45 [(0, vr 0), (1, vi x1), (2, vi x2), (3, vl y3), (5, vi x5), (6, vi x6)] [] (S0, M) := by
  exact mQ hK [17, 21, 32, 83] 5 4 45 b_L_mean_45 rfl _ _ _ h
set_option maxRecDepth 40000 in
theorem q_L_see_0 {cal : mCal} {lim : Nat × Nat} {scr : Nat × (Nat → Int)} {ret : Option mVal → mHp → Prop} {K : Nat → mLV → List mVal → mHp → Prop} (hK : mClo m_L_see cal lim scr ret K) (x1 : Int) (x2 : Int) (M : mMem) (h :
  (∃ v2 m1, cal 92 [vr 0, vi x1] (S0, M) (some (vi v2), (S0, m1)) ∧
  ((v2 = 0 →
    ret (some (vi (-1))) (S0, m1)) ∧ (¬ (v2 = 0) →
    ((x2 < 0 →
      ret (some (vi (-1))) (S0, m1)) ∧ (¬ (x2 < 0) →
      ((x2 ≤ 60 →
        (((m1 0 13) < 6 →
          mIn (m1 0 13) 6 (mIn ((mupd m1 40 (m1 0 13) x1) 0 13) 6 (ret (some (vi ((mupd (mupd (mupd m1 40 (m1 0 13) x1) 41 ((mupd m1 40 (m1 0 13) x1) 0 13) x2) 0 13 (w32 (((mupd (mupd m1 40 (m1 0 13) x1) 41 ((mupd m1 40 (m1 0 13) x1) 0 13) x2) 0 13) + 1))) 0 13))) (S0, mupd (mupd (mupd m1 40 (m1 0 13) x1) 41 ((mupd m1 40 (m1 0 13) x1) 0 13) x2) 0 13 (w32 (((mupd (mupd m1 40 (m1 0 13) x1) 41 ((mupd m1 40 (m1 0 13) x1) 0 13) x2) 0 13) + 1)))))) ∧ (¬ ((m1 0 13) < 6) →
          ret (some (vi (-3))) (S0, m1)))) ∧ (¬ (x2 ≤ 60) →
        ret (some (vi (-1))) (S0, m1))))))))) :
  K 0 [(0, vr 0), (1, vi x1), (2, vi x2)] [] (S0, M) := by
  exact mQ hK [18, 20, 32] 4 0 0 b_L_see_0 rfl _ _ _ h
set_option maxRecDepth 40000 in
theorem q_L_forget_0 {cal : mCal} {lim : Nat × Nat} {scr : Nat × (Nat → Int)} {ret : Option mVal → mHp → Prop} {K : Nat → mLV → List mVal → mHp → Prop} (hK : mClo m_L_forget cal lim scr ret K) (x1 : Int) (M : mMem) (h :
  ((x1 < 0 →
    ret (some (vi (-1))) (S0, M)) ∧ (¬ (x1 < 0) →
    ((x1 ≤ (M 0 13) →
      ret (some (vi (M 0 13))) (S0, mupd M 0 13 x1)) ∧ (¬ (x1 ≤ (M 0 13)) →
      ret (some (vi (-1))) (S0, M)))))) :
  K 0 [(0, vr 0), (1, vi x1)] [] (S0, M) := by
  exact mQ hK [12, 14] 3 0 0 b_L_forget_0 rfl _ _ _ h
set_option maxRecDepth 40000 in
theorem q_L_fills_0 {cal : mCal} {lim : Nat × Nat} {scr : Nat × (Nat → Int)} {ret : Option mVal → mHp → Prop} {K : Nat → mLV → List mVal → mHp → Prop} (hK : mClo m_L_fills cal lim scr ret K)  (M : mMem) (h :
  (∃ v2 m1, cal 109 [vr 0] (S0, M) (some (vi v2), (S0, m1)) ∧
  ((v2 ≠ 0 →
    (∃ v4 m3, cal 110 [vr 0] (S0, m1) (some (vi v4), (S0, m3)) ∧
    K 19 [(0, vr 0), (1, vi 0), (2, vi v4), (3, vi 0)] [] (S0, m3))) ∧ (¬ (v2 ≠ 0) →
    ret (some (vi (-2))) (S0, m1))))) :
  K 0 [(0, vr 0)] [] (S0, M) := by
  exact mQ hK [10, 35, 41] 4 0 0 b_L_fills_0 rfl _ _ _ h
set_option maxRecDepth 40000 in
theorem q_L_fills_19 {cal : mCal} {lim : Nat × Nat} {scr : Nat × (Nat → Int)} {ret : Option mVal → mHp → Prop} {K : Nat → mLV → List mVal → mHp → Prop} (hK : mClo m_L_fills cal lim scr ret K) (x1 : Int) (x2 : Int) (x3 : Int) (M : mMem) (h :
  ((x2 ≤ x3 →
    ret (some (vi x1)) (S0, M)) ∧ (¬ (x2 ≤ x3) →
    (∃ v2 m1, cal 111 [vr 0, vi x3] (S0, M) (some (vi v2), (S0, m1)) ∧
    ((v2 = 0 →
      K 19 [(0, vr 0), (1, vi x1), (2, vi x2), (3, vi (w32 (x3 + 1)))] [] (S0, m1)) ∧ (¬ (v2 = 0) →
      K 19 [(0, vr 0), (1, vi (w32 (x1 + 1))), (2, vi x2), (3, vi (w32 (x3 + 1)))] [] (S0, m1))))))) :
  K 19 [(0, vr 0), (1, vi x1), (2, vi x2), (3, vi x3)] [] (S0, M) := by
  exact mQ hK [10, 35, 41] 4 2 19 b_L_fills_19 rfl _ _ _ h
set_option maxRecDepth 40000 in
theorem q_L_shades_0 {cal : mCal} {lim : Nat × Nat} {scr : Nat × (Nat → Int)} {ret : Option mVal → mHp → Prop} {K : Nat → mLV → List mVal → mHp → Prop} (hK : mClo m_L_shades cal lim scr ret K) (x1 : Int) (x2 : Int) (M : mMem) (h :
  (∃ v2 m1, cal 87 [vi x1, vi x2] (S0, M) (some (vi v2), (S0, m1)) ∧
  ((v2 ≠ 0 →
    (∃ v4 m3, cal 94 [vi x1, vi x2] (S0, m1) (some (vi v4), (S0, m3)) ∧
    mIn v4 36 ((((m3 2 v4) ≠ 4 →
      ret (some (vi (-2))) (S0, m3)) ∧ (¬ ((m3 2 v4) ≠ 4) →
      (∃ v6 m5, cal 109 [vr 0] (S0, m3) (some (vi v6), (S0, m5)) ∧
      ((v6 ≠ 0 →
        (∃ v8 m7, cal 110 [vr 0] (S0, m5) (some (vi v8), (S0, m7)) ∧
        K 51 [(0, vr 0), (3, vi v4), (4, vi 0), (5, vi v8), (6, vi 0)] [] (S0, m7))) ∧ (¬ (v6 ≠ 0) →
        ret (some (vi (-2))) (S0, m5))))))))) ∧ (¬ (v2 ≠ 0) →
    ret (some (vi (-1))) (S0, m1))))) :
  K 0 [(0, vr 0), (1, vi x1), (2, vi x2)] [] (S0, M) := by
  exact mQ hK [10, 36, 39, 83, 89] 6 0 0 b_L_shades_0 rfl _ _ _ h
set_option maxRecDepth 40000 in
theorem q_L_shades_51 {cal : mCal} {lim : Nat × Nat} {scr : Nat × (Nat → Int)} {ret : Option mVal → mHp → Prop} {K : Nat → mLV → List mVal → mHp → Prop} (hK : mClo m_L_shades cal lim scr ret K) (x3 : Int) (x4 : Int) (x5 : Int) (x6 : Int) (M : mMem) (h :
  ((x5 ≤ x6 →
    ret (some (vi x4)) (S0, M)) ∧ (¬ (x5 ≤ x6) →
    (∃ v2 m1, cal 111 [vr 0, vi x6] (S0, M) (some (vi v2), (S0, m1)) ∧
    ((v2 = 0 →
      K 51 [(0, vr 0), (3, vi x3), (4, vi x4), (5, vi x5), (6, vi (w32 (x6 + 1)))] [] (S0, m1)) ∧ (¬ (v2 = 0) →
      mIn x3 36 (K 51 [(0, vr 0), (3, vi x3), (4, vi (jor x4 (jshl 1 (m1 10 x3)))), (5, vi x5), (6, vi (w32 (x6 + 1)))] [] (S0, m1)))))))) :
  K 51 [(0, vr 0), (3, vi x3), (4, vi x4), (5, vi x5), (6, vi x6)] [] (S0, M) := by
  exact mQ hK [10, 36, 39, 83, 89] 6 4 51 b_L_shades_51 rfl _ _ _ h
set_option maxRecDepth 40000 in
theorem q_L_span_0 {cal : mCal} {lim : Nat × Nat} {scr : Nat × (Nat → Int)} {ret : Option mVal → mHp → Prop} {K : Nat → mLV → List mVal → mHp → Prop} (hK : mClo m_L_span cal lim scr ret K) (x1 : Int) (M : mMem) (h :
  (∃ v2 m1, cal 89 [vi x1] (S0, M) (some (vi v2), (S0, m1)) ∧
  ((v2 ≠ 0 →
    (∃ v4 m3, cal 109 [vr 0] (S0, m1) (some (vi v4), (S0, m3)) ∧
    ((v4 ≠ 0 →
      (∃ v6 m5, cal 110 [vr 0] (S0, m3) (some (vi v6), (S0, m5)) ∧
      K 30 [(0, vr 0), (1, vi x1), (2, vi (-4)), (3, vi v6), (4, vi 0)] [] (S0, m5))) ∧ (¬ (v4 ≠ 0) →
      ret (some (vi (-2))) (S0, m3))))) ∧ (¬ (v2 ≠ 0) →
    ret (some (vi (-1))) (S0, m1))))) :
  K 0 [(0, vr 0), (1, vi x1)] [] (S0, M) := by
  exact mQ hK [9, 19, 76, 82, 83, 89] 7 0 0 b_L_span_0 rfl _ _ _ h
set_option maxRecDepth 40000 in
theorem q_L_span_30 {cal : mCal} {lim : Nat × Nat} {scr : Nat × (Nat → Int)} {ret : Option mVal → mHp → Prop} {K : Nat → mLV → List mVal → mHp → Prop} (hK : mClo m_L_span cal lim scr ret K) (x1 : Int) (x2 : Int) (x3 : Int) (x4 : Int) (M : mMem) (h :
  ((x3 ≤ x4 →
    ret (some (vi x2)) (S0, M)) ∧ (¬ (x3 ≤ x4) →
    (∃ v2 m1, cal 111 [vr 0, vi x4] (S0, M) (some (vi v2), (S0, m1)) ∧
    ((v2 = 0 →
      K 30 [(0, vr 0), (1, vi x1), (2, vi x2), (3, vi x3), (4, vi (w32 (x4 + 1)))] [] (S0, m1)) ∧ (¬ (v2 = 0) →
      (∃ v4 m3, cal 13 [vr 9] (S0, m1) (some (vi v4), (S0, m3)) ∧
      ((x2 ≠ (-4) →
        K 63 [(0, vr 0), (1, vi x1), (2, vi x2), (3, vi x3), (4, vi x4), (5, vi v4)] [] (S0, m3)) ∧ (¬ (x2 ≠ (-4)) →
        K 63 [(0, vr 0), (1, vi x1), (2, vi v4), (3, vi x3), (4, vi x4), (5, vi v4)] [] (S0, m3)))))))))) :
  K 30 [(0, vr 0), (1, vi x1), (2, vi x2), (3, vi x3), (4, vi x4)] [] (S0, M) := by
  exact mQ hK [9, 19, 76, 82, 83, 89] 7 3 30 b_L_span_30 rfl _ _ _ h
set_option maxRecDepth 40000 in
theorem q_L_span_63 {cal : mCal} {lim : Nat × Nat} {scr : Nat × (Nat → Int)} {ret : Option mVal → mHp → Prop} {K : Nat → mLV → List mVal → mHp → Prop} (hK : mClo m_L_span cal lim scr ret K) (x1 : Int) (x2 : Int) (x3 : Int) (x4 : Int) (x5 : Int) (M : mMem) (h :
  ((x1 ≠ 0 →
    K 30 [(0, vr 0), (1, vi x1), (2, vi (if x2 ≤ x5 then x5 else x2)), (3, vi x3), (4, vi (w32 (x4 + 1)))] [] (S0, M)) ∧ (¬ (x1 ≠ 0) →
    K 30 [(0, vr 0), (1, vi x1), (2, vi (if x2 ≤ x5 then x2 else x5)), (3, vi x3), (4, vi (w32 (x4 + 1)))] [] (S0, M)))) :
  K 63 [(0, vr 0), (1, vi x1), (2, vi x2), (3, vi x3), (4, vi x4), (5, vi x5)] [] (S0, M) := by
  exact mQ hK [9, 19, 76, 82, 83, 89] 7 4 63 b_L_span_63 rfl _ _ _ h
set_option maxRecDepth 40000 in
theorem q_L_ask_0 {cal : mCal} {lim : Nat × Nat} {scr : Nat × (Nat → Int)} {ret : Option mVal → mHp → Prop} {K : Nat → mLV → List mVal → mHp → Prop} (hK : mClo m_L_ask cal lim scr ret K) (x1 : Int) (M : mMem) (h :
  (∃ v2 m1, cal 89 [vi x1] (S0, M) (some (vi v2), (S0, m1)) ∧
  ((v2 ≠ 0 →
    (∃ v4 m3, cal 109 [vr 0] (S0, m1) (some (vi v4), (S0, m3)) ∧
    ((v4 ≠ 0 →
      (∃ v6 m5, cal 112 [vr 0] (S0, m3) (some (vi v6), (S0, m5)) ∧
      (∃ m7, cal 21 [vr 37, vi (w32 (-v6))] (S0, m5) (none, (S0, m7)) ∧
      K 35 [(0, vr 0), (1, vi x1), (3, vi 0)] [] (S0, m7)))) ∧ (¬ (v4 ≠ 0) →
      ret (some (vi (-2))) (S0, m3))))) ∧ (¬ (v2 ≠ 0) →
    ret (some (vi (-1))) (S0, m1))))) :
  K 0 [(0, vr 0), (1, vi x1)] [] (S0, M) := by
  exact mQ hK [9, 19, 66, 82, 90] 6 0 0 b_L_ask_0 rfl _ _ _ h
set_option maxRecDepth 40000 in
theorem q_L_ask_35 {cal : mCal} {lim : Nat × Nat} {scr : Nat × (Nat → Int)} {ret : Option mVal → mHp → Prop} {K : Nat → mLV → List mVal → mHp → Prop} (hK : mClo m_L_ask cal lim scr ret K) (x1 : Int) (x3 : Int) (M : mMem) (h :
  (((M 1 5) ≤ x3 →
    (((M 37 0) = (-4) →
      ret (some (vi (M 37 0))) (S0, M)) ∧ (¬ ((M 37 0) = (-4)) →
      ((x1 ≠ 0 →
        ret (some (vi (w32 (-(M 37 1))))) (S0, M)) ∧ (¬ (x1 ≠ 0) →
        ret (some (vi (M 37 0))) (S0, M)))))) ∧ (¬ ((M 1 5) ≤ x3) →
    (∃ v2 m1, cal 113 [vr 0, vi x3] (S0, M) (some (vi v2), (S0, m1)) ∧
    (∃ m3, cal 22 [vr 37, vi x3, vi (w32 (-v2))] (S0, m1) (none, (S0, m3)) ∧
    K 35 [(0, vr 0), (1, vi x1), (3, vi (w32 (x3 + 1)))] [] (S0, m3)))))) :
  K 35 [(0, vr 0), (1, vi x1), (3, vi x3)] [] (S0, M) := by
  exact mQ hK [9, 19, 66, 82, 90] 6 3 35 b_L_ask_35 rfl _ _ _ h
set_option maxRecDepth 40000 in
theorem q_L_drift_0 {cal : mCal} {lim : Nat × Nat} {scr : Nat × (Nat → Int)} {ret : Option mVal → mHp → Prop} {K : Nat → mLV → List mVal → mHp → Prop} (hK : mClo m_L_drift cal lim scr ret K) (x1 : Int) (x2 : Int) (x3 : Int) (M : mMem) (h :
  ((x2 < 1 →
    ret (some (vi (-1))) (S0, M)) ∧ (¬ (x2 < 1) →
    ((60 < x2 →
      ret (some (vi (-1))) (S0, M)) ∧ (¬ (60 < x2) →
      (∃ v2 m1, cal 89 [vi x3] (S0, M) (some (vi v2), (S0, m1)) ∧
      ((v2 ≠ 0 →
        (∃ m3, cal 2 [vr 9, vr 1] (S0, m1) (none, (S0, m3)) ∧
        K 37 [(0, vr 0), (2, vi x2), (3, vi x3), (4, vi x1), (5, vi 0)] [] (S0, m3))) ∧ (¬ (v2 ≠ 0) →
        ret (some (vi (-1))) (S0, m1))))))))) :
  K 0 [(0, vr 0), (1, vi x1), (2, vi x2), (3, vi x3)] [] (S0, M) := by
  exact mQ hK [18, 20, 73, 87, 95] 6 0 0 b_L_drift_0 rfl _ _ _ h
set_option maxRecDepth 40000 in
theorem q_L_drift_37 {cal : mCal} {lim : Nat × Nat} {scr : Nat × (Nat → Int)} {ret : Option mVal → mHp → Prop} {K : Nat → mLV → List mVal → mHp → Prop} (hK : mClo m_L_drift cal lim scr ret K) (x2 : Int) (x3 : Int) (x4 : Int) (x5 : Int) (M : mMem) (h :
  ((x2 ≤ x5 →
    ((x3 ≠ 0 →
      (∃ v2 m1, cal 15 [vr 9, vi 4] (S0, M) (some (vi v2), (S0, m1)) ∧
      ret (some (vi v2)) (S0, m1))) ∧ (¬ (x3 ≠ 0) →
      (∃ v4 m3, cal 13 [vr 9] (S0, M) (some (vi v4), (S0, m3)) ∧
      ret (some (vi v4)) (S0, m3))))) ∧ (¬ (x2 ≤ x5) →
    (∃ m5, cal 103 [vr 0, vi (jand (jushr (w32 ((w32 (x4 * 1103515245)) + 12345)) 16) 32767)] (S0, M) (none, (S0, m5)) ∧
    K 37 [(0, vr 0), (2, vi x2), (3, vi x3), (4, vi (w32 ((w32 (x4 * 1103515245)) + 12345))), (5, vi (w32 (x5 + 1)))] [] (S0, m5))))) :
  K 37 [(0, vr 0), (2, vi x2), (3, vi x3), (4, vi x4), (5, vi x5)] [] (S0, M) := by
  exact mQ hK [18, 20, 73, 87, 95] 6 3 37 b_L_drift_37 rfl _ _ _ h
set_option maxRecDepth 40000 in
theorem q_L_keep_0 {cal : mCal} {lim : Nat × Nat} {scr : Nat × (Nat → Int)} {ret : Option mVal → mHp → Prop} {K : Nat → mLV → List mVal → mHp → Prop} (hK : mClo m_L_keep cal lim scr ret K) (x1 : Int) (M : mMem) (h :
  ((x1 = 0 →
    K 11 [(0, vr 0), (1, vi x1)] [] (S0, M)) ∧ (¬ (x1 = 0) →
    ((x1 = 1 →
      K 11 [(0, vr 0), (1, vi x1)] [] (S0, M)) ∧ (¬ (x1 = 1) →
      ret (some (vi (-1))) (S0, M)))))) :
  K 0 [(0, vr 0), (1, vi x1)] [] (S0, M) := by
  exact mQ hK [22, 26, 38] 4 0 0 b_L_keep_0 rfl _ _ _ h
set_option maxRecDepth 40000 in
theorem q_L_keep_11 {cal : mCal} {lim : Nat × Nat} {scr : Nat × (Nat → Int)} {ret : Option mVal → mHp → Prop} {K : Nat → mLV → List mVal → mHp → Prop} (hK : mClo m_L_keep cal lim scr ret K) (x1 : Int) (M : mMem) (h :
  ((x1 ≠ 0 →
    (((M 26 1) = 0 →
      K 39 [(0, vr 0), (2, vr 26)] [vi 0] (S0, M)) ∧ (¬ ((M 26 1) = 0) →
      K 39 [(0, vr 0), (2, vr 26)] [vi 1] (S0, M)))) ∧ (¬ (x1 ≠ 0) →
    (((M 17 1) = 0 →
      K 39 [(0, vr 0), (2, vr 17)] [vi 0] (S0, M)) ∧ (¬ ((M 17 1) = 0) →
      K 39 [(0, vr 0), (2, vr 17)] [vi 1] (S0, M)))))) :
  K 11 [(0, vr 0), (1, vi x1)] [] (S0, M) := by
  exact mQ hK [22, 26, 38] 4 1 11 b_L_keep_11 rfl _ _ _ h
set_option maxRecDepth 40000 in
theorem q_L_keep_39 {cal : mCal} {lim : Nat × Nat} {scr : Nat × (Nat → Int)} {ret : Option mVal → mHp → Prop} {K : Nat → mLV → List mVal → mHp → Prop} (hK : mClo m_L_keep cal lim scr ret K) (c2 : Nat) (s0 : Int) (M : mMem) (hc2 : c2 = 17 ∨ c2 = 26) (h :
  (∃ m1, cal 2 [vr (c2 + 1), vr 1] (S0, M) (none, (S0, m1)) ∧
  ret (some (vi s0)) (S0, mupd m1 c2 1 1))) :
  K 39 [(0, vr 0), (2, vr c2)] [vi s0] (S0, M) := by
  rcases hc2 with rfl | rfl <;> exact mQ hK [22, 26, 38] 4 5 39 b_L_keep_39 rfl _ _ _ h
set_option maxRecDepth 40000 in
theorem q_L_back_0 {cal : mCal} {lim : Nat × Nat} {scr : Nat × (Nat → Int)} {ret : Option mVal → mHp → Prop} {K : Nat → mLV → List mVal → mHp → Prop} (hK : mClo m_L_back cal lim scr ret K) (x1 : Int) (M : mMem) (h :
  ((x1 = 0 →
    ((x1 ≠ 0 →
      K 26 [(0, vr 0)] [vr 26] (S0, M)) ∧ (¬ (x1 ≠ 0) →
      K 26 [(0, vr 0)] [vr 17] (S0, M)))) ∧ (¬ (x1 = 0) →
    ((x1 = 1 →
      ((x1 ≠ 0 →
        K 26 [(0, vr 0)] [vr 26] (S0, M)) ∧ (¬ (x1 ≠ 0) →
        K 26 [(0, vr 0)] [vr 17] (S0, M)))) ∧ (¬ (x1 = 1) →
      ret (some (vi (-1))) (S0, M)))))) :
  K 0 [(0, vr 0), (1, vi x1)] [] (S0, M) := by
  exact mQ hK [11, 22, 37] 4 0 0 b_L_back_0 rfl _ _ _ h
set_option maxRecDepth 40000 in
theorem q_L_back_26 {cal : mCal} {lim : Nat × Nat} {scr : Nat × (Nat → Int)} {ret : Option mVal → mHp → Prop} {K : Nat → mLV → List mVal → mHp → Prop} (hK : mClo m_L_back cal lim scr ret K) (e0 : Nat) (M : mMem) (he0 : e0 = 17 ∨ e0 = 26) (h :
  (((M e0 1) ≠ 0 →
    (∃ m1, cal 2 [vr 1, vr (e0 + 1)] (S0, M) (none, (S0, m1)) ∧
    (∃ v3 m2, cal 13 [vr 1] (S0, m1) (some (vi v3), (S0, m2)) ∧
    ret (some (vi v3)) (S0, m2)))) ∧ (¬ ((M e0 1) ≠ 0) →
    ret (some (vi (-2))) (S0, M)))) :
  K 26 [(0, vr 0)] [vr e0] (S0, M) := by
  rcases he0 with rfl | rfl <;> exact mQ hK [11, 22, 37] 4 3 26 b_L_back_26 rfl _ _ _ h
set_option maxRecDepth 40000 in
theorem q_L_sheet_0 {cal : mCal} {lim : Nat × Nat} {scr : Nat × (Nat → Int)} {ret : Option mVal → mHp → Prop} {K : Nat → mLV → List mVal → mHp → Prop} (hK : mClo m_L_sheet cal lim scr ret K) (x1 : Int) (x2 : Int) (x3 : Int) (M : mMem) (h :
  (∃ v2 m1, cal 90 [vi x1] (S0, M) (some (vi v2), (S0, m1)) ∧
  ((v2 = 0 →
    ret (some (vi (-1))) (S0, m1)) ∧ (¬ (v2 = 0) →
    (∃ v4 m3, cal 91 [vi x2] (S0, m1) (some (vi v4), (S0, m3)) ∧
    ((v4 = 0 →
      ret (some (vi (-1))) (S0, m3)) ∧ (¬ (v4 = 0) →
      ((x3 ≤ 40 →
        ((0 ≤ x3 →
          mIn x1 4 ((∃ t5, S0.2.lookup (38, (x1 : Int).toNat) = some t5 ∧ K 35 [(2, vi x2), (3, vi x3)] [vr t5] (S0, m3)))) ∧ (¬ (0 ≤ x3) →
          ret (some (vi (-14))) (S0, m3)))) ∧ (¬ (x3 ≤ 40) →
        ret (some (vi (-1))) (S0, m3)))))))))) :
  K 0 [(0, vr 0), (1, vi x1), (2, vi x2), (3, vi x3)] [] (S0, M) := by
  exact mQ hK [20, 22, 29] 4 0 0 b_L_sheet_0 rfl _ _ _ h
set_option maxRecDepth 40000 in
theorem q_L_sheet_35 {cal : mCal} {lim : Nat × Nat} {scr : Nat × (Nat → Int)} {ret : Option mVal → mHp → Prop} {K : Nat → mLV → List mVal → mHp → Prop} (hK : mClo m_L_sheet cal lim scr ret K) (x2 : Int) (x3 : Int) (e0 : Nat) (M : mMem) (he0 : e0 = 45 ∨ e0 = 47 ∨ e0 = 49 ∨ e0 = 51) (h :
  (∃ m1, cal 26 [vr e0, vi x2, vi x3] (S0, M) (none, (S0, m1)) ∧
  ret (some (vi 1)) (S0, m1))) :
  K 35 [(2, vi x2), (3, vi x3)] [vr e0] (S0, M) := by
  rcases he0 with rfl | rfl | rfl | rfl <;> exact mQ hK [20, 22, 29] 4 4 35 b_L_sheet_35 rfl _ _ _ h
set_option maxRecDepth 40000 in
theorem q_L_lay_0 {cal : mCal} {lim : Nat × Nat} {scr : Nat × (Nat → Int)} {ret : Option mVal → mHp → Prop} {K : Nat → mLV → List mVal → mHp → Prop} (hK : mClo m_L_lay cal lim scr ret K) (x1 : Int) (x2 : Int) (x3 : Int) (M : mMem) (h :
  (∃ v2 m1, cal 90 [vi x1] (S0, M) (some (vi v2), (S0, m1)) ∧
  ((v2 ≠ 0 →
    mIn x1 4 ((∃ t3, S0.2.lookup (38, (x1 : Int).toNat) = some t3 ∧ K 15 [(2, vi x2), (3, vi x3)] [vr t3] (S0, m1)))) ∧ (¬ (v2 ≠ 0) →
    ret (some (vi (-1))) (S0, m1))))) :
  K 0 [(0, vr 0), (1, vi x1), (2, vi x2), (3, vi x3)] [] (S0, M) := by
  exact mQ hK [9, 37] 3 0 0 b_L_lay_0 rfl _ _ _ h
set_option maxRecDepth 40000 in
theorem q_L_lay_15 {cal : mCal} {lim : Nat × Nat} {scr : Nat × (Nat → Int)} {ret : Option mVal → mHp → Prop} {K : Nat → mLV → List mVal → mHp → Prop} (hK : mClo m_L_lay cal lim scr ret K) (x2 : Int) (x3 : Int) (e0 : Nat) (M : mMem) (he0 : e0 = 45 ∨ e0 = 47 ∨ e0 = 49 ∨ e0 = 51) (h :
  (∃ v2 m1, cal 29 [vr e0, vi x2, vi 1] (S0, M) (some (vi v2), (S0, m1)) ∧
  ((v2 = 0 →
    (∃ m3, cal 27 [vr e0, vi x2, vi x3] (S0, m1) (none, (S0, m3)) ∧
    ret (some (vi 1)) (S0, m3))) ∧ (¬ (v2 = 0) →
    ret (some (vi (w32 ((-10) - v2)))) (S0, m1))))) :
  K 15 [(2, vi x2), (3, vi x3)] [vr e0] (S0, M) := by
  rcases he0 with rfl | rfl | rfl | rfl <;> exact mQ hK [9, 37] 3 2 15 b_L_lay_15 rfl _ _ _ h
set_option maxRecDepth 40000 in
theorem q_L_read_0 {cal : mCal} {lim : Nat × Nat} {scr : Nat × (Nat → Int)} {ret : Option mVal → mHp → Prop} {K : Nat → mLV → List mVal → mHp → Prop} (hK : mClo m_L_read cal lim scr ret K) (x1 : Int) (x2 : Int) (x3 : Int) (x4 : Int) (M : mMem) (h :
  (∃ v2 m1, cal 90 [vi x1] (S0, M) (some (vi v2), (S0, m1)) ∧
  ((v2 = 0 →
    ret (some (vi (-1))) (S0, m1)) ∧ (¬ (v2 = 0) →
    (∃ v4 m3, cal 91 [vi x2] (S0, m1) (some (vi v4), (S0, m3)) ∧
    ((v4 = 0 →
      ret (some (vi (-1))) (S0, m3)) ∧ (¬ (v4 = 0) →
      ((x4 < 0 →
        ret (some (vi (-1))) (S0, m3)) ∧ (¬ (x4 < 0) →
        ((x4 ≤ 13 →
          mIn x1 4 ((∃ t5, S0.2.lookup (38, (x1 : Int).toNat) = some t5 ∧ K 34 [(0, vr 0), (2, vi x2), (3, vi x3), (4, vi x4)] [vr t5] (S0, m3)))) ∧ (¬ (x4 ≤ 13) →
          ret (some (vi (-1))) (S0, m3)))))))))))) :
  K 0 [(0, vr 0), (1, vi x1), (2, vi x2), (3, vi x3), (4, vi x4)] [] (S0, M) := by
  exact mQ hK [26, 28, 109, 112] 5 0 0 b_L_read_0 rfl _ _ _ h
set_option maxRecDepth 40000 in
theorem q_L_read_34 {cal : mCal} {lim : Nat × Nat} {scr : Nat × (Nat → Int)} {ret : Option mVal → mHp → Prop} {K : Nat → mLV → List mVal → mHp → Prop} (hK : mClo m_L_read cal lim scr ret K) (x2 : Int) (x3 : Int) (x4 : Int) (e0 : Nat) (M : mMem) (he0 : e0 = 45 ∨ e0 = 47 ∨ e0 = 49 ∨ e0 = 51) (h :
  (∃ m1, cal 2 [vr 9, vr 1] (S0, M) (none, (S0, m1)) ∧
  K 56 [(0, vr 0), (2, vi x2), (3, vi x3), (4, vi x4), (5, vr e0), (6, vi 0), (7, vi 0), (8, vi 0)] [] (S0, m1))) :
  K 34 [(0, vr 0), (2, vi x2), (3, vi x3), (4, vi x4)] [vr e0] (S0, M) := by
  rcases he0 with rfl | rfl | rfl | rfl <;> exact mQ hK [26, 28, 109, 112] 5 3 34 b_L_read_34 rfl _ _ _ h
set_option maxRecDepth 40000 in
theorem q_L_read_56 {cal : mCal} {lim : Nat × Nat} {scr : Nat × (Nat → Int)} {ret : Option mVal → mHp → Prop} {K : Nat → mLV → List mVal → mHp → Prop} (hK : mClo m_L_read cal lim scr ret K) (x2 : Int) (x3 : Int) (x4 : Int) (c5 : Nat) (x6 : Int) (x7 : Int) (x8 : Int) (M : mMem) (hc5 : c5 = 45 ∨ c5 = 47 ∨ c5 = 49 ∨ c5 = 51) (h :
  ((x4 ≤ x8 →
    K 118 [(0, vr 0), (6, vi x6), (7, vi x7)] [] (S0, M)) ∧ (¬ (x4 ≤ x8) →
    ((x7 ≠ 0 →
      K 118 [(0, vr 0), (6, vi x6), (7, vi x7)] [] (S0, M)) ∧ (¬ (x7 ≠ 0) →
      (∃ v2 m1, cal 28 [vr c5, vi x2, vi (w32 (x3 + (w32 (3 * x8)))), vi 3] (S0, M) (some (vi v2), (S0, m1)) ∧
      ((v2 ≠ 0 →
        K 56 [(0, vr 0), (2, vi x2), (3, vi x3), (4, vi x4), (5, vr c5), (6, vi x6), (7, vi v2), (8, vi (w32 (x8 + 1)))] [] (S0, m1)) ∧ (¬ (v2 ≠ 0) →
        (∃ v4 m3, cal 102 [vr 0, vr c5, vi (w32 (x3 + (w32 (3 * x8))))] (S0, m1) (some (vi v4), (S0, m3)) ∧
        ((v4 ≠ 0 →
          K 56 [(0, vr 0), (2, vi x2), (3, vi x3), (4, vi x4), (5, vr c5), (6, vi (w32 (x6 + 1))), (7, vi v2), (8, vi (w32 (x8 + 1)))] [] (S0, m3)) ∧ (¬ (v4 ≠ 0) →
          ret (some (vi (w32 ((-20) - x8)))) (S0, m3)))))))))))) :
  K 56 [(0, vr 0), (2, vi x2), (3, vi x3), (4, vi x4), (5, vr c5), (6, vi x6), (7, vi x7), (8, vi x8)] [] (S0, M) := by
  rcases hc5 with rfl | rfl | rfl | rfl <;> exact mQ hK [26, 28, 109, 112] 5 4 56 b_L_read_56 rfl _ _ _ h
set_option maxRecDepth 40000 in
theorem q_L_read_118 {cal : mCal} {lim : Nat × Nat} {scr : Nat × (Nat → Int)} {ret : Option mVal → mHp → Prop} {K : Nat → mLV → List mVal → mHp → Prop} (hK : mClo m_L_read cal lim scr ret K) (x6 : Int) (x7 : Int) (M : mMem) (h :
  (∃ m1, cal 2 [vr 1, vr 9] (S0, M) (none, (S0, m1)) ∧
  ret (some (vi x6)) (S0, mupd m1 0 16 x7))) :
  K 118 [(0, vr 0), (6, vi x6), (7, vi x7)] [] (S0, M) := by
  exact mQ hK [26, 28, 109, 112] 5 7 118 b_L_read_118 rfl _ _ _ h
set_option maxRecDepth 40000 in
theorem q_L_torn_0 {cal : mCal} {lim : Nat × Nat} {scr : Nat × (Nat → Int)} {ret : Option mVal → mHp → Prop} {K : Nat → mLV → List mVal → mHp → Prop} (hK : mClo m_L_torn cal lim scr ret K)  (M : mMem) (h :
  ret (some (vi (M 0 16))) (S0, M)) :
  K 0 [(0, vr 0)] [] (S0, M) := by
  exact mQ hK [] 1 0 0 b_L_torn_0 rfl _ _ _ h
set_option maxRecDepth 40000 in
theorem q_L_count_0 {cal : mCal} {lim : Nat × Nat} {scr : Nat × (Nat → Int)} {ret : Option mVal → mHp → Prop} {K : Nat → mLV → List mVal → mHp → Prop} (hK : mClo m_L_count cal lim scr ret K) (x1 : Int) (M : mMem) (h :
  (((x1 = ((0 : Nat) : Int) →
    ret (some (vi (M 0 13))) (S0, M)) ∧ 
  (x1 = ((1 : Nat) : Int) →
    (((M 17 1) = 0 →
      K 60 [(0, vr 0)] [vi 0] (S0, M)) ∧ (¬ ((M 17 1) = 0) →
      K 60 [(0, vr 0)] [vi 1] (S0, M)))) ∧ 
  (x1 = ((2 : Nat) : Int) →
    ret (some (vi (M 35 1))) (S0, M)) ∧ 
  (x1 = ((3 : Nat) : Int) →
    (∃ t1, S0.2.lookup (38, (0 : Int).toNat) = some t1 ∧ K 91 [(0, vr 0)] [vr t1] (S0, M))) ∧ 
  (x1 = ((4 : Nat) : Int) →
    ret (some (vi (w32 ((w32 ((M 3 1) + (M 3 2))) + (M 3 3))))) (S0, M)) ∧ 
  (x1 = ((5 : Nat) : Int) →
    (∃ v3 m2, cal 17 [vr 1] (S0, M) (some (vi v3), (S0, m2)) ∧
    ret (some (vi v3)) (S0, m2))) ∧ True) ∧ ((x1 < 0 ∨ ((6 : Nat) : Int) ≤ x1) →
    ret (some (vi (-1))) (S0, M)))) :
  K 0 [(0, vr 0), (1, vi x1)] [] (S0, M) := by
  exact mQ hK [40, 45, 59, 74, 75, 77, 85, 102, 111, 112, 142, 150] 13 0 0 b_L_count_0 rfl _ _ _ h
set_option maxRecDepth 40000 in
theorem q_L_count_60 {cal : mCal} {lim : Nat × Nat} {scr : Nat × (Nat → Int)} {ret : Option mVal → mHp → Prop} {K : Nat → mLV → List mVal → mHp → Prop} (hK : mClo m_L_count cal lim scr ret K) (s0 : Int) (M : mMem) (h :
  (((M 26 1) = 0 →
    ret (some (vi (w32 (s0 + 0)))) (S0, M)) ∧ (¬ ((M 26 1) = 0) →
    ret (some (vi (w32 (s0 + 1)))) (S0, M)))) :
  K 60 [(0, vr 0)] [vi s0] (S0, M) := by
  exact mQ hK [40, 45, 59, 74, 75, 77, 85, 102, 111, 112, 142, 150] 13 4 60 b_L_count_60 rfl _ _ _ h
set_option maxRecDepth 40000 in
theorem q_L_count_91 {cal : mCal} {lim : Nat × Nat} {scr : Nat × (Nat → Int)} {ret : Option mVal → mHp → Prop} {K : Nat → mLV → List mVal → mHp → Prop} (hK : mClo m_L_count cal lim scr ret K) (e0 : Nat) (M : mMem) (he0 : e0 = 45 ∨ e0 = 47 ∨ e0 = 49 ∨ e0 = 51) (h :
  ((0 ≤ (M e0 2) →
    (∃ t1, S0.2.lookup (38, (0 : Int).toNat) = some t1 ∧ K 108 [] [vr t1] (S0, M))) ∧ (¬ (0 ≤ (M e0 2)) →
    ret (some (vi (-4))) (S0, M)))) :
  K 91 [(0, vr 0)] [vr e0] (S0, M) := by
  rcases he0 with rfl | rfl | rfl | rfl <;> exact mQ hK [40, 45, 59, 74, 75, 77, 85, 102, 111, 112, 142, 150] 13 9 91 b_L_count_91 rfl _ _ _ h
set_option maxRecDepth 40000 in
theorem q_L_count_108 {cal : mCal} {lim : Nat × Nat} {scr : Nat × (Nat → Int)} {ret : Option mVal → mHp → Prop} {K : Nat → mLV → List mVal → mHp → Prop} (hK : mClo m_L_count cal lim scr ret K) (e0 : Nat) (M : mMem) (he0 : e0 = 45 ∨ e0 = 47 ∨ e0 = 49 ∨ e0 = 51) (h :
  ret (some (vi (M e0 2))) (S0, M)) :
  K 108 [] [vr e0] (S0, M) := by
  rcases he0 with rfl | rfl | rfl | rfl <;> exact mQ hK [40, 45, 59, 74, 75, 77, 85, 102, 111, 112, 142, 150] 13 11 108 b_L_count_108 rfl _ _ _ h
set_option maxRecDepth 40000 in
theorem q_L_isCell_0 {cal : mCal} {lim : Nat × Nat} {scr : Nat × (Nat → Int)} {ret : Option mVal → mHp → Prop} {K : Nat → mLV → List mVal → mHp → Prop} (hK : mClo m_L_isCell cal lim scr ret K) (x0 : Int) (x1 : Int) (M : mMem) (h :
  ((x0 < 0 →
    ret (some (vi 0)) (S0, M)) ∧ (¬ (x0 < 0) →
    ((6 ≤ x0 →
      ret (some (vi 0)) (S0, M)) ∧ (¬ (6 ≤ x0) →
      ((x1 < 0 →
        ret (some (vi 0)) (S0, M)) ∧ (¬ (x1 < 0) →
        ((6 ≤ x1 →
          ret (some (vi 0)) (S0, M)) ∧ (¬ (6 ≤ x1) →
          ret (some (vi 1)) (S0, M)))))))))) :
  K 0 [(0, vi x0), (1, vi x1)] [] (S0, M) := by
  exact mQ hK [24, 25] 3 0 0 b_L_isCell_0 rfl _ _ _ h
set_option maxRecDepth 40000 in
theorem q_L_isColour_0 {cal : mCal} {lim : Nat × Nat} {scr : Nat × (Nat → Int)} {ret : Option mVal → mHp → Prop} {K : Nat → mLV → List mVal → mHp → Prop} (hK : mClo m_L_isColour cal lim scr ret K) (x0 : Int) (M : mMem) (h :
  ((x0 < 1 →
    ret (some (vi 0)) (S0, M)) ∧ (¬ (x0 < 1) →
    ((3 < x0 →
      ret (some (vi 0)) (S0, M)) ∧ (¬ (3 < x0) →
      ret (some (vi 1)) (S0, M)))))) :
  K 0 [(0, vi x0)] [] (S0, M) := by
  exact mQ hK [14, 15] 3 0 0 b_L_isColour_0 rfl _ _ _ h
set_option maxRecDepth 40000 in
theorem q_L_isPart_0 {cal : mCal} {lim : Nat × Nat} {scr : Nat × (Nat → Int)} {ret : Option mVal → mHp → Prop} {K : Nat → mLV → List mVal → mHp → Prop} (hK : mClo m_L_isPart cal lim scr ret K) (x0 : Int) (M : mMem) (h :
  ((x0 = 0 →
    ret (some (vi 1)) (S0, M)) ∧ (¬ (x0 = 0) →
    ((x0 ≠ 1 →
      ret (some (vi 0)) (S0, M)) ∧ (¬ (x0 ≠ 1) →
      ret (some (vi 1)) (S0, M)))))) :
  K 0 [(0, vi x0)] [] (S0, M) := by
  exact mQ hK [9, 13, 14] 4 0 0 b_L_isPart_0 rfl _ _ _ h
set_option maxRecDepth 40000 in
theorem q_L_isSheet_0 {cal : mCal} {lim : Nat × Nat} {scr : Nat × (Nat → Int)} {ret : Option mVal → mHp → Prop} {K : Nat → mLV → List mVal → mHp → Prop} (hK : mClo m_L_isSheet cal lim scr ret K) (x0 : Int) (M : mMem) (h :
  ((x0 < 0 →
    ret (some (vi 0)) (S0, M)) ∧ (¬ (x0 < 0) →
    ((4 ≤ x0 →
      ret (some (vi 0)) (S0, M)) ∧ (¬ (4 ≤ x0) →
      ret (some (vi 1)) (S0, M)))))) :
  K 0 [(0, vi x0)] [] (S0, M) := by
  exact mQ hK [13, 14] 3 0 0 b_L_isSheet_0 rfl _ _ _ h
set_option maxRecDepth 40000 in
theorem q_L_isLane_0 {cal : mCal} {lim : Nat × Nat} {scr : Nat × (Nat → Int)} {ret : Option mVal → mHp → Prop} {K : Nat → mLV → List mVal → mHp → Prop} (hK : mClo m_L_isLane cal lim scr ret K) (x0 : Int) (M : mMem) (h :
  ((x0 < 0 →
    ret (some (vi 0)) (S0, M)) ∧ (¬ (x0 < 0) →
    ((2 < x0 →
      ret (some (vi 0)) (S0, M)) ∧ (¬ (2 < x0) →
      ret (some (vi 1)) (S0, M)))))) :
  K 0 [(0, vi x0)] [] (S0, M) := by
  exact mQ hK [13, 14] 3 0 0 b_L_isLane_0 rfl _ _ _ h
set_option maxRecDepth 40000 in
theorem q_L_isLaw_0 {cal : mCal} {lim : Nat × Nat} {scr : Nat × (Nat → Int)} {ret : Option mVal → mHp → Prop} {K : Nat → mLV → List mVal → mHp → Prop} (hK : mClo m_L_isLaw cal lim scr ret K) (x1 : Int) (M : mMem) (h :
  ((x1 < 0 →
    ret (some (vi 0)) (S0, M)) ∧ (¬ (x1 < 0) →
    (((M 1 5) ≤ x1 →
      ret (some (vi 0)) (S0, M)) ∧ (¬ ((M 1 5) ≤ x1) →
      ret (some (vi 1)) (S0, M)))))) :
  K 0 [(0, vr 0), (1, vi x1)] [] (S0, M) := by
  exact mQ hK [19, 20] 3 0 0 b_L_isLaw_0 rfl _ _ _ h
set_option maxRecDepth 40000 in
theorem q_L_isLawPart_0 {cal : mCal} {lim : Nat × Nat} {scr : Nat × (Nat → Int)} {ret : Option mVal → mHp → Prop} {K : Nat → mLV → List mVal → mHp → Prop} (hK : mClo m_L_isLawPart cal lim scr ret K) (x0 : Int) (x1 : Int) (M : mMem) (h :
  (((x0 = ((0 : Nat) : Int) →
    ((x1 < 0 →
      ret (some (vi 0)) (S0, M)) ∧ (¬ (x1 < 0) →
      ((3 < x1 →
        ret (some (vi 0)) (S0, M)) ∧ (¬ (3 < x1) →
        ret (some (vi 1)) (S0, M)))))) ∧ 
  (x0 = ((1 : Nat) : Int) →
    (∃ v2 m1, cal 88 [vi x1] (S0, M) (some (vi v2), (S0, m1)) ∧
    mBo v2 (ret (some (vi v2)) (S0, m1)))) ∧ 
  (x0 = ((2 : Nat) : Int) →
    (∃ v4 m3, cal 88 [vi x1] (S0, M) (some (vi v4), (S0, m3)) ∧
    mBo v4 (ret (some (vi v4)) (S0, m3)))) ∧ 
  (x0 = ((3 : Nat) : Int) →
    ((x1 < 1 →
      ret (some (vi 0)) (S0, M)) ∧ (¬ (x1 < 1) →
      ((9 < x1 →
        ret (some (vi 0)) (S0, M)) ∧ (¬ (9 < x1) →
        ret (some (vi 1)) (S0, M)))))) ∧ True) ∧ ((x0 < 0 ∨ ((4 : Nat) : Int) ≤ x0) →
    ret (some (vi 0)) (S0, M)))) :
  K 0 [(0, vi x0), (1, vi x1)] [] (S0, M) := by
  exact mQ hK [32, 45, 46, 47, 52, 67, 68, 69] 9 0 0 b_L_isLawPart_0 rfl _ _ _ h
set_option maxRecDepth 40000 in
theorem q_L_place_0 {cal : mCal} {lim : Nat × Nat} {scr : Nat × (Nat → Int)} {ret : Option mVal → mHp → Prop} {K : Nat → mLV → List mVal → mHp → Prop} (hK : mClo m_L_place cal lim scr ret K) (x0 : Int) (x1 : Int) (M : mMem) (h :
  ret (some (vi (w32 ((w32 (x0 * 6)) + x1)))) (S0, M)) :
  K 0 [(0, vi x0), (1, vi x1)] [] (S0, M) := by
  exact mQ hK [] 1 0 0 b_L_place_0 rfl _ _ _ h
set_option maxRecDepth 40000 in
theorem q_L_stitchCode_0 {cal : mCal} {lim : Nat × Nat} {scr : Nat × (Nat → Int)} {ret : Option mVal → mHp → Prop} {K : Nat → mLV → List mVal → mHp → Prop} (hK : mClo m_L_stitchCode cal lim scr ret K) (x0 : Int) (x1 : Int) (M : mMem) (h :
  ret (some (vi (w32 ((w32 ((w32 (100 * (jdiv x0 6))) + (w32 (10 * (jrem x0 6))))) + x1)))) (S0, M)) :
  K 0 [(0, vi x0), (1, vi x1)] [] (S0, M) := by
  exact mQ hK [] 1 0 0 b_L_stitchCode_0 rfl _ _ _ h
set_option maxRecDepth 40000 in
theorem q_L_followPlan_0 {cal : mCal} {lim : Nat × Nat} {scr : Nat × (Nat → Int)} {ret : Option mVal → mHp → Prop} {K : Nat → mLV → List mVal → mHp → Prop} (hK : mClo m_L_followPlan cal lim scr ret K) (x1 : Int) (M : mMem) (h :
  (∃ m1, cal 2 [vr 9, vr 1] (S0, M) (none, (S0, m1)) ∧
  K 30 [(0, vr 0), (1, vi x1), (2, vi 0)] [] (S0, mupd (mupd m1 9 7 0) 9 8 (-4)))) :
  K 0 [(0, vr 0), (1, vi x1)] [] (S0, M) := by
  exact mQ hK [54, 60] 3 0 0 b_L_followPlan_0 rfl _ _ _ h
set_option maxRecDepth 40000 in
theorem q_L_followPlan_30 {cal : mCal} {lim : Nat × Nat} {scr : Nat × (Nat → Int)} {ret : Option mVal → mHp → Prop} {K : Nat → mLV → List mVal → mHp → Prop} (hK : mClo m_L_followPlan cal lim scr ret K) (x1 : Int) (x2 : Int) (M : mMem) (h :
  (((M 9 6) ≤ x2 →
    ret none (S0, M)) ∧ (¬ ((M 9 6) ≤ x2) →
    ((x2 = x1 →
      K 30 [(0, vr 0), (1, vi x1), (2, vi (w32 (x2 + 1)))] [] (S0, M)) ∧ (¬ (x2 = x1) →
      (∃ m1, cal 8 [vr 9, vi x2] (S0, M) (none, (S0, m1)) ∧
      K 30 [(0, vr 0), (1, vi x1), (2, vi (w32 (x2 + 1)))] [] (S0, m1))))))) :
  K 30 [(0, vr 0), (1, vi x1), (2, vi x2)] [] (S0, M) := by
  exact mQ hK [54, 60] 3 1 30 b_L_followPlan_30 rfl _ _ _ h
set_option maxRecDepth 40000 in
theorem q_L_fewestToHold_0 {cal : mCal} {lim : Nat × Nat} {scr : Nat × (Nat → Int)} {ret : Option mVal → mHp → Prop} {K : Nat → mLV → List mVal → mHp → Prop} (hK : mClo m_L_fewestToHold cal lim scr ret K) (x1 : Int) (M : mMem) (h :
  (∃ v2 m1, cal 10 [vr 1, vi x1] (S0, M) (some (vi v2), (S0, m1)) ∧
  ((v2 ≤ 0 →
    (∃ m3, cal 2 [vr 9, vr 1] (S0, m1) (none, (S0, m3)) ∧
    (∃ v5 m4, cal 98 [vr 0, vi x1] (S0, m3) (some (vi v5), (S0, m4)) ∧
    ((v5 = 0 →
      (∃ v7 m6, cal 99 [vr 0, vi x1] (S0, m4) (some (vi v7), (S0, m6)) ∧
      ((v7 = 0 →
        ret (some (vi (-4))) (S0, m6)) ∧ (¬ (v7 = 0) →
        ret (some (vi 2)) (S0, m6))))) ∧ (¬ (v5 = 0) →
      ret (some (vi 1)) (S0, m4)))))) ∧ (¬ (v2 ≤ 0) →
    ret (some (vi 0)) (S0, m1))))) :
  K 0 [(0, vr 0), (1, vi x1)] [] (S0, M) := by
  exact mQ hK [13, 34, 46, 48] 5 0 0 b_L_fewestToHold_0 rfl _ _ _ h
set_option maxRecDepth 40000 in
theorem q_L_holdsByOne_0 {cal : mCal} {lim : Nat × Nat} {scr : Nat × (Nat → Int)} {ret : Option mVal → mHp → Prop} {K : Nat → mLV → List mVal → mHp → Prop} (hK : mClo m_L_holdsByOne cal lim scr ret K) (x1 : Int) (M : mMem) (h :
  K 2 [(0, vr 0), (1, vi x1), (2, vi 0)] [] (S0, M)) :
  K 0 [(0, vr 0), (1, vi x1)] [] (S0, M) := by
  exact mQ hK [23, 29] 3 0 0 b_L_holdsByOne_0 rfl _ _ _ h
set_option maxRecDepth 40000 in
theorem q_L_holdsByOne_2 {cal : mCal} {lim : Nat × Nat} {scr : Nat × (Nat → Int)} {ret : Option mVal → mHp → Prop} {K : Nat → mLV → List mVal → mHp → Prop} (hK : mClo m_L_holdsByOne cal lim scr ret K) (x1 : Int) (x2 : Int) (M : mMem) (h :
  ((36 ≤ x2 →
    ret (some (vi 0)) (S0, M)) ∧ (¬ (36 ≤ x2) →
    (∃ v2 m1, cal 101 [vi x2] (S0, M) (some (vi v2), (S0, m1)) ∧
    (∃ v4 m3, cal 100 [vr 0, vi x1, vi v2, vi 0] (S0, m1) (some (vi v4), (S0, m3)) ∧
    ((v4 = 0 →
      K 2 [(0, vr 0), (1, vi x1), (2, vi (w32 (x2 + 1)))] [] (S0, m3)) ∧ (¬ (v4 = 0) →
      ret (some (vi 1)) (S0, m3)))))))) :
  K 2 [(0, vr 0), (1, vi x1), (2, vi x2)] [] (S0, M) := by
  exact mQ hK [23, 29] 3 1 2 b_L_holdsByOne_2 rfl _ _ _ h
set_option maxRecDepth 40000 in
theorem q_L_holdsByTwo_0 {cal : mCal} {lim : Nat × Nat} {scr : Nat × (Nat → Int)} {ret : Option mVal → mHp → Prop} {K : Nat → mLV → List mVal → mHp → Prop} (hK : mClo m_L_holdsByTwo cal lim scr ret K) (x1 : Int) (M : mMem) (h :
  K 2 [(0, vr 0), (1, vi x1), (2, vi 0)] [] (S0, M)) :
  K 0 [(0, vr 0), (1, vi x1)] [] (S0, M) := by
  exact mQ hK [82, 110, 120, 126, 132] 6 0 0 b_L_holdsByTwo_0 rfl _ _ _ h
set_option maxRecDepth 40000 in
theorem q_L_holdsByTwo_2 {cal : mCal} {lim : Nat × Nat} {scr : Nat × (Nat → Int)} {ret : Option mVal → mHp → Prop} {K : Nat → mLV → List mVal → mHp → Prop} (hK : mClo m_L_holdsByTwo cal lim scr ret K) (x1 : Int) (x2 : Int) (M : mMem) (h :
  ((36 ≤ x2 →
    ret (some (vi 0)) (S0, M)) ∧ (¬ (36 ≤ x2) →
    (∃ v2 m1, cal 101 [vi x2] (S0, M) (some (vi v2), (S0, m1)) ∧
    K 16 [(0, vr 0), (1, vi x1), (2, vi x2), (3, vi v2), (4, vi 1)] [] (S0, m1))))) :
  K 2 [(0, vr 0), (1, vi x1), (2, vi x2)] [] (S0, M) := by
  exact mQ hK [82, 110, 120, 126, 132] 6 1 2 b_L_holdsByTwo_2 rfl _ _ _ h
set_option maxRecDepth 40000 in
theorem q_L_holdsByTwo_16 {cal : mCal} {lim : Nat × Nat} {scr : Nat × (Nat → Int)} {ret : Option mVal → mHp → Prop} {K : Nat → mLV → List mVal → mHp → Prop} (hK : mClo m_L_holdsByTwo cal lim scr ret K) (x1 : Int) (x2 : Int) (x3 : Int) (x4 : Int) (M : mMem) (h :
  ((3 < x4 →
    K 2 [(0, vr 0), (1, vi x1), (2, vi (w32 (x2 + 1)))] [] (S0, M)) ∧ (¬ (3 < x4) →
    (∃ v2 m1, cal 5 [vr 9, vi x3, vi x4] (S0, M) (some (vi v2), (S0, m1)) ∧
    ((v2 = 0 →
      K 16 [(0, vr 0), (1, vi x1), (2, vi x2), (3, vi x3), (4, vi (w32 (x4 + 1)))] [] (S0, m1)) ∧ (¬ (v2 = 0) →
      (∃ m3, cal 6 [vr 9, vi x3, vi x4] (S0, m1) (none, (S0, m3)) ∧
      (∃ v5 m4, cal 95 [vi x3, vi x4] (S0, m3) (some (vi v5), (S0, m4)) ∧
      ((5 ≤ (jdiv x3 6) →
        K 83 [(0, vr 0), (1, vi x1), (2, vi x2), (3, vi x3), (4, vi x4)] [vi 0] (S0, mupd m4 39 0 v5)) ∧ (¬ (5 ≤ (jdiv x3 6)) →
        (∃ v7 m6, cal 100 [vr 0, vi x1, vi (w32 (x3 + 6)), vi 1] (S0, mupd m4 39 0 v5) (some (vi v7), (S0, m6)) ∧
        ((v7 = 0 →
          K 83 [(0, vr 0), (1, vi x1), (2, vi x2), (3, vi x3), (4, vi x4)] [vi 0] (S0, m6)) ∧ (¬ (v7 = 0) →
          K 83 [(0, vr 0), (1, vi x1), (2, vi x2), (3, vi x3), (4, vi x4)] [vi 1] (S0, m6)))))))))))))) :
  K 16 [(0, vr 0), (1, vi x1), (2, vi x2), (3, vi x3), (4, vi x4)] [] (S0, M) := by
  exact mQ hK [82, 110, 120, 126, 132] 6 2 16 b_L_holdsByTwo_16 rfl _ _ _ h
set_option maxRecDepth 40000 in
theorem q_L_holdsByTwo_83 {cal : mCal} {lim : Nat × Nat} {scr : Nat × (Nat → Int)} {ret : Option mVal → mHp → Prop} {K : Nat → mLV → List mVal → mHp → Prop} (hK : mClo m_L_holdsByTwo cal lim scr ret K) (x1 : Int) (x2 : Int) (x3 : Int) (x4 : Int) (s0 : Int) (M : mMem) (h :
  ((s0 ≠ 0 →
    ret (some (vi 1)) (S0, M)) ∧ (¬ (s0 ≠ 0) →
    ((5 ≤ (jrem x3 6) →
      K 112 [(0, vr 0), (1, vi x1), (2, vi x2), (3, vi x3), (4, vi x4)] [] (S0, M)) ∧ (¬ (5 ≤ (jrem x3 6)) →
      (∃ v2 m1, cal 100 [vr 0, vi x1, vi (w32 (x3 + 1)), vi 1] (S0, M) (some (vi v2), (S0, m1)) ∧
      ((v2 = 0 →
        K 112 [(0, vr 0), (1, vi x1), (2, vi x2), (3, vi x3), (4, vi x4)] [] (S0, m1)) ∧ (¬ (v2 = 0) →
        ret (some (vi 1)) (S0, m1))))))))) :
  K 83 [(0, vr 0), (1, vi x1), (2, vi x2), (3, vi x3), (4, vi x4)] [vi s0] (S0, M) := by
  exact mQ hK [82, 110, 120, 126, 132] 6 4 83 b_L_holdsByTwo_83 rfl _ _ _ h
set_option maxRecDepth 40000 in
theorem q_L_holdsByTwo_112 {cal : mCal} {lim : Nat × Nat} {scr : Nat × (Nat → Int)} {ret : Option mVal → mHp → Prop} {K : Nat → mLV → List mVal → mHp → Prop} (hK : mClo m_L_holdsByTwo cal lim scr ret K) (x1 : Int) (x2 : Int) (x3 : Int) (x4 : Int) (M : mMem) (h :
  (∃ m1, cal 7 [vr 9, vi x3] (S0, M) (none, (S0, m1)) ∧
  K 16 [(0, vr 0), (1, vi x1), (2, vi x2), (3, vi x3), (4, vi (w32 (x4 + 1)))] [] (S0, m1))) :
  K 112 [(0, vr 0), (1, vi x1), (2, vi x2), (3, vi x3), (4, vi x4)] [] (S0, M) := by
  exact mQ hK [82, 110, 120, 126, 132] 6 6 112 b_L_holdsByTwo_112 rfl _ _ _ h
set_option maxRecDepth 40000 in
theorem q_L_holdsByStitchAt_0 {cal : mCal} {lim : Nat × Nat} {scr : Nat × (Nat → Int)} {ret : Option mVal → mHp → Prop} {K : Nat → mLV → List mVal → mHp → Prop} (hK : mClo m_L_holdsByStitchAt cal lim scr ret K) (x1 : Int) (x2 : Int) (x3 : Int) (M : mMem) (h :
  K 3 [(0, vr 0), (1, vi x1), (2, vi x2), (3, vi x3), (4, vi 1)] [] (S0, M)) :
  K 0 [(0, vr 0), (1, vi x1), (2, vi x2), (3, vi x3)] [] (S0, M) := by
  exact mQ hK [47, 78, 84] 4 0 0 b_L_holdsByStitchAt_0 rfl _ _ _ h
set_option maxRecDepth 40000 in
theorem q_L_holdsByStitchAt_3 {cal : mCal} {lim : Nat × Nat} {scr : Nat × (Nat → Int)} {ret : Option mVal → mHp → Prop} {K : Nat → mLV → List mVal → mHp → Prop} (hK : mClo m_L_holdsByStitchAt cal lim scr ret K) (x1 : Int) (x2 : Int) (x3 : Int) (x4 : Int) (M : mMem) (h :
  ((3 < x4 →
    ret (some (vi 0)) (S0, M)) ∧ (¬ (3 < x4) →
    (∃ v2 m1, cal 5 [vr 9, vi x2, vi x4] (S0, M) (some (vi v2), (S0, m1)) ∧
    ((v2 = 0 →
      K 3 [(0, vr 0), (1, vi x1), (2, vi x2), (3, vi x3), (4, vi (w32 (x4 + 1)))] [] (S0, m1)) ∧ (¬ (v2 = 0) →
      (∃ m3, cal 3 [vr 9, vi x2, vi x4] (S0, m1) (none, (S0, m3)) ∧
      (∃ v5 m4, cal 10 [vr 9, vi x1] (S0, m3) (some (vi v5), (S0, m4)) ∧
      ((v5 ≤ 0 →
        K 48 [(0, vr 0), (1, vi x1), (2, vi x2), (3, vi x3), (4, vi x4)] [vi 0] (S0, m4)) ∧ (¬ (v5 ≤ 0) →
        K 48 [(0, vr 0), (1, vi x1), (2, vi x2), (3, vi x3), (4, vi x4)] [vi 1] (S0, m4))))))))))) :
  K 3 [(0, vr 0), (1, vi x1), (2, vi x2), (3, vi x3), (4, vi x4)] [] (S0, M) := by
  exact mQ hK [47, 78, 84] 4 1 3 b_L_holdsByStitchAt_3 rfl _ _ _ h
set_option maxRecDepth 40000 in
theorem q_L_holdsByStitchAt_48 {cal : mCal} {lim : Nat × Nat} {scr : Nat × (Nat → Int)} {ret : Option mVal → mHp → Prop} {K : Nat → mLV → List mVal → mHp → Prop} (hK : mClo m_L_holdsByStitchAt cal lim scr ret K) (x1 : Int) (x2 : Int) (x3 : Int) (x4 : Int) (s0 : Int) (M : mMem) (h :
  (∃ m1, cal 3 [vr 9, vi x2, vi 0] (S0, M) (none, (S0, m1)) ∧
  ((s0 = 0 →
    K 3 [(0, vr 0), (1, vi x1), (2, vi x2), (3, vi x3), (4, vi (w32 (x4 + 1)))] [] (S0, m1)) ∧ (¬ (s0 = 0) →
    (∃ v3 m2, cal 95 [vi x2, vi x4] (S0, m1) (some (vi v3), (S0, m2)) ∧
    mIn x3 2 (ret (some (vi 1)) (S0, mupd m2 39 x3 v3))))))) :
  K 48 [(0, vr 0), (1, vi x1), (2, vi x2), (3, vi x3), (4, vi x4)] [vi s0] (S0, M) := by
  exact mQ hK [47, 78, 84] 4 3 48 b_L_holdsByStitchAt_48 rfl _ _ _ h
set_option maxRecDepth 40000 in
theorem q_L_placeByRows_0 {cal : mCal} {lim : Nat × Nat} {scr : Nat × (Nat → Int)} {ret : Option mVal → mHp → Prop} {K : Nat → mLV → List mVal → mHp → Prop} (hK : mClo m_L_placeByRows cal lim scr ret K) (x0 : Int) (M : mMem) (h :
  (∃ v2 m1, cal 94 [vi (jrem x0 6), vi (jdiv x0 6)] (S0, M) (some (vi v2), (S0, m1)) ∧
  ret (some (vi v2)) (S0, m1))) :
  K 0 [(0, vi x0)] [] (S0, M) := by
  exact mQ hK [] 1 0 0 b_L_placeByRows_0 rfl _ _ _ h
set_option maxRecDepth 40000 in
theorem q_L_workFrom_0 {cal : mCal} {lim : Nat × Nat} {scr : Nat × (Nat → Int)} {ret : Option mVal → mHp → Prop} {K : Nat → mLV → List mVal → mHp → Prop} (hK : mClo m_L_workFrom cal lim scr ret K) (c1 : Nat) (x2 : Int) (M : mMem) (hc1 : c1 = 45 ∨ c1 = 47 ∨ c1 = 49 ∨ c1 = 51) (h :
  mIn x2 40 (mIn (w32 (x2 + 1)) 40 (mIn (w32 (x2 + 2)) 40 ((∃ v2 m1, cal 87 [vi (M (c1 + 1) x2), vi (M (c1 + 1) (w32 (x2 + 1)))] (S0, M) (some (vi v2), (S0, m1)) ∧
  ((v2 = 0 →
    ret (some (vi 0)) (S0, m1)) ∧ (¬ (v2 = 0) →
    (∃ v4 m3, cal 88 [vi (M (c1 + 1) (w32 (x2 + 2)))] (S0, m1) (some (vi v4), (S0, m3)) ∧
    ((v4 = 0 →
      ret (some (vi 0)) (S0, m3)) ∧ (¬ (v4 = 0) →
      (∃ v6 m5, cal 94 [vi (M (c1 + 1) x2), vi (M (c1 + 1) (w32 (x2 + 1)))] (S0, m3) (some (vi v6), (S0, m5)) ∧
      (∃ v8 m7, cal 5 [vr 9, vi v6, vi (M (c1 + 1) (w32 (x2 + 2)))] (S0, m5) (some (vi v8), (S0, m7)) ∧
      ((v8 ≠ 0 →
        (∃ v10 m9, cal 94 [vi (M (c1 + 1) x2), vi (M (c1 + 1) (w32 (x2 + 1)))] (S0, m7) (some (vi v10), (S0, m9)) ∧
        (∃ m11, cal 6 [vr 9, vi v10, vi (M (c1 + 1) (w32 (x2 + 2)))] (S0, m9) (none, (S0, m11)) ∧
        ret (some (vi 1)) (S0, m11)))) ∧ (¬ (v8 ≠ 0) →
        ret (some (vi 0)) (S0, m7))))))))))))))) :
  K 0 [(0, vr 0), (1, vr c1), (2, vi x2)] [] (S0, M) := by
  rcases hc1 with rfl | rfl | rfl | rfl <;> exact mQ hK [62, 64] 3 0 0 b_L_workFrom_0 rfl _ _ _ h
set_option maxRecDepth 40000 in
theorem q_L_driftOnce_0 {cal : mCal} {lim : Nat × Nat} {scr : Nat × (Nat → Int)} {ret : Option mVal → mHp → Prop} {K : Nat → mLV → List mVal → mHp → Prop} (hK : mClo m_L_driftOnce cal lim scr ret K) (x1 : Int) (M : mMem) (h :
  mIn (jrem x1 36) 36 ((((M 10 (jrem x1 36)) ≠ 4 →
    (((M 10 (jrem x1 36)) = 0 →
      (∃ v2 m1, cal 5 [vr 9, vi (jrem x1 36), vi (w32 (1 + (jrem (jdiv x1 64) 3)))] (S0, M) (some (vi v2), (S0, m1)) ∧
      ((v2 = 0 →
        ret none (S0, m1)) ∧ (¬ (v2 = 0) →
        (∃ m3, cal 6 [vr 9, vi (jrem x1 36), vi (w32 (1 + (jrem (jdiv x1 64) 3)))] (S0, m1) (none, (S0, m3)) ∧
        ret none (S0, m3)))))) ∧ (¬ ((M 10 (jrem x1 36)) = 0) →
      (∃ m4, cal 3 [vr 9, vi (jrem x1 36), vi 4] (S0, M) (none, (S0, m4)) ∧
      ret none (S0, m4))))) ∧ (¬ ((M 10 (jrem x1 36)) ≠ 4) →
    (∃ m5, cal 3 [vr 9, vi (jrem x1 36), vi 0] (S0, M) (none, (S0, m5)) ∧
    ret none (S0, m5)))))) :
  K 0 [(0, vr 0), (1, vi x1)] [] (S0, M) := by
  exact mQ hK [32, 48, 81] 4 0 0 b_L_driftOnce_0 rfl _ _ _ h
set_option maxRecDepth 40000 in
theorem q_L_gatherRunners_0 {cal : mCal} {lim : Nat × Nat} {scr : Nat × (Nat → Int)} {ret : Option mVal → mHp → Prop} {K : Nat → mLV → List mVal → mHp → Prop} (hK : mClo m_L_gatherRunners cal lim scr ret K)  (M : mMem) (h :
  (∃ v2 m1, cal 17 [vr 1] (S0, M) (some (vi v2), (S0, m1)) ∧
  ((v2 ≤ 8 →
    (∃ m3, cal 2 [vr 9, vr 1] (S0, m1) (none, (S0, m3)) ∧
    K 32 [(0, vr 0), (1, vi 0)] [] (S0, mupd m3 0 15 0))) ∧ (¬ (v2 ≤ 8) →
    ret (some (vi 0)) (S0, m1))))) :
  K 0 [(0, vr 0)] [] (S0, M) := by
  exact mQ hK [14, 78, 84] 4 0 0 b_L_gatherRunners_0 rfl _ _ _ h
set_option maxRecDepth 40000 in
theorem q_L_gatherRunners_32 {cal : mCal} {lim : Nat × Nat} {scr : Nat × (Nat → Int)} {ret : Option mVal → mHp → Prop} {K : Nat → mLV → List mVal → mHp → Prop} (hK : mClo m_L_gatherRunners cal lim scr ret K) (x1 : Int) (M : mMem) (h :
  ((36 ≤ x1 →
    ret (some (vi 1)) (S0, M)) ∧ (¬ (36 ≤ x1) →
    (∃ v2 m1, cal 16 [vr 1, vi x1] (S0, M) (some (vi v2), (S0, m1)) ∧
    ((v2 = 0 →
      K 32 [(0, vr 0), (1, vi (w32 (x1 + 1)))] [] (S0, m1)) ∧ (¬ (v2 = 0) →
      ((8 ≤ (m1 0 15) →
        K 32 [(0, vr 0), (1, vi (w32 (x1 + 1)))] [] (S0, m1)) ∧ (¬ (8 ≤ (m1 0 15)) →
        mIn (m1 0 15) 8 (K 32 [(0, vr 0), (1, vi (w32 (x1 + 1)))] [] (S0, mupd (mupd m1 44 (m1 0 15) x1) 0 15 (w32 (((mupd m1 44 (m1 0 15) x1) 0 15) + 1)))))))))))) :
  K 32 [(0, vr 0), (1, vi x1)] [] (S0, M) := by
  exact mQ hK [14, 78, 84] 4 2 32 b_L_gatherRunners_32 rfl _ _ _ h
set_option maxRecDepth 40000 in
theorem q_L_letRun_0 {cal : mCal} {lim : Nat × Nat} {scr : Nat × (Nat → Int)} {ret : Option mVal → mHp → Prop} {K : Nat → mLV → List mVal → mHp → Prop} (hK : mClo m_L_letRun cal lim scr ret K) (x1 : Int) (M : mMem) (h :
  K 2 [(0, vr 0), (1, vi x1), (2, vi 0)] [] (S0, M)) :
  K 0 [(0, vr 0), (1, vi x1)] [] (S0, M) := by
  exact mQ hK [36, 37, 46] 4 0 0 b_L_letRun_0 rfl _ _ _ h
set_option maxRecDepth 40000 in
theorem q_L_letRun_2 {cal : mCal} {lim : Nat × Nat} {scr : Nat × (Nat → Int)} {ret : Option mVal → mHp → Prop} {K : Nat → mLV → List mVal → mHp → Prop} (hK : mClo m_L_letRun cal lim scr ret K) (x1 : Int) (x2 : Int) (M : mMem) (h :
  (((M 0 15) ≤ x2 →
    ret none (S0, M)) ∧ (¬ ((M 0 15) ≤ x2) →
    mIn x2 8 ((((jand (jshr x1 x2) 1) ≠ 1 →
      (∃ m1, cal 3 [vr 9, vi (w32 ((M 44 x2) + 6)), vi 0] (S0, M) (none, (S0, m1)) ∧
      K 2 [(0, vr 0), (1, vi x1), (2, vi (w32 (x2 + 1)))] [] (S0, m1))) ∧ (¬ ((jand (jshr x1 x2) 1) ≠ 1) →
      (∃ m2, cal 3 [vr 9, vi (w32 ((M 44 x2) + 6)), vi 1] (S0, M) (none, (S0, m2)) ∧
      K 2 [(0, vr 0), (1, vi x1), (2, vi (w32 (x2 + 1)))] [] (S0, m2)))))))) :
  K 2 [(0, vr 0), (1, vi x1), (2, vi x2)] [] (S0, M) := by
  exact mQ hK [36, 37, 46] 4 1 2 b_L_letRun_2 rfl _ _ _ h
set_option maxRecDepth 40000 in
theorem q_L_weight_0 {cal : mCal} {lim : Nat × Nat} {scr : Nat × (Nat → Int)} {ret : Option mVal → mHp → Prop} {K : Nat → mLV → List mVal → mHp → Prop} (hK : mClo m_L_weight cal lim scr ret K) (x1 : Int) (x2 : Int) (M : mMem) (h :
  K 5 [(0, vr 0), (1, vi x1), (2, vi x2), (3, vl (1 : Nat)), (5, vi 0)] [] (S0, M)) :
  K 0 [(0, vr 0), (1, vi x1), (2, vi x2)] [] (S0, M) := by
  exact mQ hK [30, 35, 43] 4 0 0 b_L_weight_0 rfl _ _ _ h
set_option maxRecDepth 40000 in
theorem q_L_weight_5 {cal : mCal} {lim : Nat × Nat} {scr : Nat × (Nat → Int)} {ret : Option mVal → mHp → Prop} {K : Nat → mLV → List mVal → mHp → Prop} (hK : mClo m_L_weight cal lim scr ret K) (x1 : Int) (x2 : Int) (y3 : Int) (x5 : Int) (M : mMem) (h :
  (((M 0 15) ≤ x5 →
    ret (some (vl y3)) (S0, M)) ∧ (¬ ((M 0 15) ≤ x5) →
    (((jand (jshr x1 x5) 1) ≠ 1 →
      K 5 [(0, vr 0), (1, vi x1), (2, vi x2), (3, vl (w64 (y3 * (w32 (10 - x2))))), (5, vi (w32 (x5 + 1)))] [] (S0, M)) ∧ (¬ ((jand (jshr x1 x5) 1) ≠ 1) →
      K 5 [(0, vr 0), (1, vi x1), (2, vi x2), (3, vl (w64 (y3 * x2))), (5, vi (w32 (x5 + 1)))] [] (S0, M)))))) :
  K 5 [(0, vr 0), (1, vi x1), (2, vi x2), (3, vl y3), (5, vi x5)] [] (S0, M) := by
  exact mQ hK [30, 35, 43] 4 1 5 b_L_weight_5 rfl _ _ _ h
set_option maxRecDepth 40000 in
theorem q_L_fractionPart_0 {cal : mCal} {lim : Nat × Nat} {scr : Nat × (Nat → Int)} {ret : Option mVal → mHp → Prop} {K : Nat → mLV → List mVal → mHp → Prop} (hK : mClo m_L_fractionPart cal lim scr ret K) (y1 : Int) (x3 : Int) (M : mMem) (h :
  K 6 [(0, vr 0), (1, vl y1), (3, vi x3), (4, vl (1 : Nat)), (6, vi 0)] [] (S0, M)) :
  K 0 [(0, vr 0), (1, vl y1), (3, vi x3)] [] (S0, M) := by
  exact mQ hK [29, 45, 47] 4 0 0 b_L_fractionPart_0 rfl _ _ _ h
set_option maxRecDepth 40000 in
theorem q_L_fractionPart_6 {cal : mCal} {lim : Nat × Nat} {scr : Nat × (Nat → Int)} {ret : Option mVal → mHp → Prop} {K : Nat → mLV → List mVal → mHp → Prop} (hK : mClo m_L_fractionPart cal lim scr ret K) (y1 : Int) (x3 : Int) (y4 : Int) (x6 : Int) (M : mMem) (h :
  (((M 0 15) ≤ x6 →
    (∃ v2 m1, cal 108 [vl y1, vl y4] (S0, M) (some (vl v2), (S0, m1)) ∧
    ((x3 ≠ 0 →
      (v2 ≠ 0 ∧ ret (some (vl (jldiv y4 v2))) (S0, m1))) ∧ (¬ (x3 ≠ 0) →
      (v2 ≠ 0 ∧ ret (some (vl (jldiv y1 v2))) (S0, m1)))))) ∧ (¬ ((M 0 15) ≤ x6) →
    K 6 [(0, vr 0), (1, vl y1), (3, vi x3), (4, vl (w64 (y4 * 10))), (6, vi (w32 (x6 + 1)))] [] (S0, M)))) :
  K 6 [(0, vr 0), (1, vl y1), (3, vi x3), (4, vl y4), (6, vi x6)] [] (S0, M) := by
  exact mQ hK [29, 45, 47] 4 1 6 b_L_fractionPart_6 rfl _ _ _ h
set_option maxRecDepth 40000 in
theorem q_L_greatestDivisor_0 {cal : mCal} {lim : Nat × Nat} {scr : Nat × (Nat → Int)} {ret : Option mVal → mHp → Prop} {K : Nat → mLV → List mVal → mHp → Prop} (hK : mClo m_L_greatestDivisor cal lim scr ret K) (y0 : Int) (y2 : Int) (M : mMem) (h :
  K 9 [(4, vl y2), (6, vl y0), (8, vi 0)] [] (S0, M)) :
  K 0 [(0, vl y0), (2, vl y2)] [] (S0, M) := by
  exact mQ hK [45] 2 0 0 b_L_greatestDivisor_0 rfl _ _ _ h
set_option maxRecDepth 40000 in
theorem q_L_greatestDivisor_9 {cal : mCal} {lim : Nat × Nat} {scr : Nat × (Nat → Int)} {ret : Option mVal → mHp → Prop} {K : Nat → mLV → List mVal → mHp → Prop} (hK : mClo m_L_greatestDivisor cal lim scr ret K) (y4 : Int) (y6 : Int) (x8 : Int) (M : mMem) (h :
  ((200 ≤ x8 →
    ret (some (vl (if y4 ≤ (1 : Nat) then (1 : Nat) else y4))) (S0, M)) ∧ (¬ (200 ≤ x8) →
    (((jlcmp y6 (0 : Nat)) ≤ 0 →
      ret (some (vl (if y4 ≤ (1 : Nat) then (1 : Nat) else y4))) (S0, M)) ∧ (¬ ((jlcmp y6 (0 : Nat)) ≤ 0) →
      (y6 ≠ 0 ∧ K 9 [(4, vl y6), (6, vl (jlrem y4 y6)), (8, vi (w32 (x8 + 1)))] [] (S0, M))))))) :
  K 9 [(4, vl y4), (6, vl y6), (8, vi x8)] [] (S0, M) := by
  exact mQ hK [45] 2 1 9 b_L_greatestDivisor_9 rfl _ _ _ h
set_option maxRecDepth 40000 in
theorem q_L_gatherHoles_0 {cal : mCal} {lim : Nat × Nat} {scr : Nat × (Nat → Int)} {ret : Option mVal → mHp → Prop} {K : Nat → mLV → List mVal → mHp → Prop} (hK : mClo m_L_gatherHoles cal lim scr ret K)  (M : mMem) (h :
  (∃ v2 m1, cal 15 [vr 1, vi 4] (S0, M) (some (vi v2), (S0, m1)) ∧
  ((v2 ≤ 4 →
    (∃ m3, cal 2 [vr 9, vr 1] (S0, m1) (none, (S0, m3)) ∧
    K 32 [(0, vr 0), (1, vi 0)] [] (S0, mupd m3 0 14 0))) ∧ (¬ (v2 ≤ 4) →
    ret (some (vi 0)) (S0, m1))))) :
  K 0 [(0, vr 0)] [] (S0, M) := by
  exact mQ hK [14, 79, 85] 4 0 0 b_L_gatherHoles_0 rfl _ _ _ h
set_option maxRecDepth 40000 in
theorem q_L_gatherHoles_32 {cal : mCal} {lim : Nat × Nat} {scr : Nat × (Nat → Int)} {ret : Option mVal → mHp → Prop} {K : Nat → mLV → List mVal → mHp → Prop} (hK : mClo m_L_gatherHoles cal lim scr ret K) (x1 : Int) (M : mMem) (h :
  ((36 ≤ x1 →
    ret (some (vi 1)) (S0, M)) ∧ (¬ (36 ≤ x1) →
    mIn x1 36 ((((M 2 x1) ≠ 4 →
      K 32 [(0, vr 0), (1, vi (w32 (x1 + 1)))] [] (S0, M)) ∧ (¬ ((M 2 x1) ≠ 4) →
      ((4 ≤ (M 0 14) →
        K 32 [(0, vr 0), (1, vi (w32 (x1 + 1)))] [] (S0, M)) ∧ (¬ (4 ≤ (M 0 14)) →
        mIn (M 0 14) 4 (K 32 [(0, vr 0), (1, vi (w32 (x1 + 1)))] [] (S0, mupd (mupd M 42 (M 0 14) x1) 0 14 (w32 (((mupd M 42 (M 0 14) x1) 0 14) + 1)))))))))))) :
  K 32 [(0, vr 0), (1, vi x1)] [] (S0, M) := by
  exact mQ hK [14, 79, 85] 4 2 32 b_L_gatherHoles_32 rfl _ _ _ h
set_option maxRecDepth 40000 in
theorem q_L_fillCount_0 {cal : mCal} {lim : Nat × Nat} {scr : Nat × (Nat → Int)} {ret : Option mVal → mHp → Prop} {K : Nat → mLV → List mVal → mHp → Prop} (hK : mClo m_L_fillCount cal lim scr ret K)  (M : mMem) (h :
  ret (some (vi (jshl 1 (w32 (2 * (M 0 14)))))) (S0, M)) :
  K 0 [(0, vr 0)] [] (S0, M) := by
  exact mQ hK [] 1 0 0 b_L_fillCount_0 rfl _ _ _ h
set_option maxRecDepth 40000 in
theorem q_L_fits_0 {cal : mCal} {lim : Nat × Nat} {scr : Nat × (Nat → Int)} {ret : Option mVal → mHp → Prop} {K : Nat → mLV → List mVal → mHp → Prop} (hK : mClo m_L_fits cal lim scr ret K) (x1 : Int) (M : mMem) (h :
  K 2 [(0, vr 0), (1, vi x1), (2, vi 0)] [] (S0, M)) :
  K 0 [(0, vr 0), (1, vi x1)] [] (S0, M) := by
  exact mQ hK [36, 84, 86, 92] 5 0 0 b_L_fits_0 rfl _ _ _ h
set_option maxRecDepth 40000 in
theorem q_L_fits_2 {cal : mCal} {lim : Nat × Nat} {scr : Nat × (Nat → Int)} {ret : Option mVal → mHp → Prop} {K : Nat → mLV → List mVal → mHp → Prop} (hK : mClo m_L_fits cal lim scr ret K) (x1 : Int) (x2 : Int) (M : mMem) (h :
  (((M 0 14) ≤ x2 →
    K 38 [(0, vr 0), (2, vi 0)] [] (S0, M)) ∧ (¬ ((M 0 14) ≤ x2) →
    mIn x2 4 ((∃ m1, cal 3 [vr 9, vi (M 42 x2), vi (jand (jshr x1 (w32 (2 * x2))) 3)] (S0, M) (none, (S0, m1)) ∧
    K 2 [(0, vr 0), (1, vi x1), (2, vi (w32 (x2 + 1)))] [] (S0, m1)))))) :
  K 2 [(0, vr 0), (1, vi x1), (2, vi x2)] [] (S0, M) := by
  exact mQ hK [36, 84, 86, 92] 5 1 2 b_L_fits_2 rfl _ _ _ h
set_option maxRecDepth 40000 in
theorem q_L_fits_38 {cal : mCal} {lim : Nat × Nat} {scr : Nat × (Nat → Int)} {ret : Option mVal → mHp → Prop} {K : Nat → mLV → List mVal → mHp → Prop} (hK : mClo m_L_fits cal lim scr ret K) (x2 : Int) (M : mMem) (h :
  (((M 0 13) ≤ x2 →
    ret (some (vi 1)) (S0, M)) ∧ (¬ ((M 0 13) ≤ x2) →
    mIn x2 6 ((((M 9 5) ≤ (M 40 x2) →
      ret (some (vi 0)) (S0, M)) ∧ (¬ ((M 9 5) ≤ (M 40 x2)) →
      mIn x2 6 ((∃ v2 m1, cal 10 [vr 9, vi (M 40 x2)] (S0, M) (some (vi v2), (S0, m1)) ∧
      mIn x2 6 (((v2 = (m1 41 x2) →
        K 38 [(0, vr 0), (2, vi (w32 (x2 + 1)))] [] (S0, m1)) ∧ (¬ (v2 = (m1 41 x2)) →
        ret (some (vi 0)) (S0, m1)))))))))))) :
  K 38 [(0, vr 0), (2, vi x2)] [] (S0, M) := by
  exact mQ hK [36, 84, 86, 92] 5 3 38 b_L_fits_38 rfl _ _ _ h
set_option maxRecDepth 40000 in
theorem q_L_groupByReads_0 {cal : mCal} {lim : Nat × Nat} {scr : Nat × (Nat → Int)} {ret : Option mVal → mHp → Prop} {K : Nat → mLV → List mVal → mHp → Prop} (hK : mClo m_L_groupByReads cal lim scr ret K)  (M : mMem) (h :
  (∃ m1, cal 190 [vr 43, vi 0] (S0, M) (none, (S0, m1)) ∧
  (∃ v3 m2, cal 110 [vr 0] (S0, m1) (some (vi v3), (S0, m2)) ∧
  K 17 [(0, vr 0), (1, vi 0), (2, vi v3), (3, vi 0)] [] (S0, m2)))) :
  K 0 [(0, vr 0)] [] (S0, M) := by
  exact mQ hK [78, 84] 3 0 0 b_L_groupByReads_0 rfl _ _ _ h
set_option maxRecDepth 40000 in
theorem q_L_groupByReads_17 {cal : mCal} {lim : Nat × Nat} {scr : Nat × (Nat → Int)} {ret : Option mVal → mHp → Prop} {K : Nat → mLV → List mVal → mHp → Prop} (hK : mClo m_L_groupByReads cal lim scr ret K) (x1 : Int) (x2 : Int) (x3 : Int) (M : mMem) (h :
  ((x2 ≤ x3 →
    ret (some (vi x1)) (S0, M)) ∧ (¬ (x2 ≤ x3) →
    (∃ v2 m1, cal 111 [vr 0, vi x3] (S0, M) (some (vi v2), (S0, m1)) ∧
    ((v2 = 0 →
      K 17 [(0, vr 0), (1, vi x1), (2, vi x2), (3, vi (w32 (x3 + 1)))] [] (S0, m1)) ∧ (¬ (v2 = 0) →
      K 36 [(0, vr 0), (1, vi (w32 (x1 + 1))), (2, vi x2), (3, vi x3), (4, vi 0)] [] (S0, m1))))))) :
  K 17 [(0, vr 0), (1, vi x1), (2, vi x2), (3, vi x3)] [] (S0, M) := by
  exact mQ hK [78, 84] 3 1 17 b_L_groupByReads_17 rfl _ _ _ h
set_option maxRecDepth 40000 in
theorem q_L_groupByReads_36 {cal : mCal} {lim : Nat × Nat} {scr : Nat × (Nat → Int)} {ret : Option mVal → mHp → Prop} {K : Nat → mLV → List mVal → mHp → Prop} (hK : mClo m_L_groupByReads cal lim scr ret K) (x1 : Int) (x2 : Int) (x3 : Int) (x4 : Int) (M : mMem) (h :
  (((M 9 5) ≤ x4 →
    K 17 [(0, vr 0), (1, vi x1), (2, vi x2), (3, vi (w32 (x3 + 1)))] [] (S0, M)) ∧ (¬ ((M 9 5) ≤ x4) →
    (∃ v2 m1, cal 10 [vr 9, vi x4] (S0, M) (some (vi v2), (S0, m1)) ∧
    mIn (w32 ((w32 (x4 * 61)) + v2)) 305 (mIn (w32 ((w32 (x4 * 61)) + v2)) 305 (K 36 [(0, vr 0), (1, vi x1), (2, vi x2), (3, vi x3), (4, vi (w32 (x4 + 1)))] [] (S0, mupd m1 43 (w32 ((w32 (x4 * 61)) + v2)) (w32 ((m1 43 (w32 ((w32 (x4 * 61)) + v2))) + 1))))))))) :
  K 36 [(0, vr 0), (1, vi x1), (2, vi x2), (3, vi x3), (4, vi x4)] [] (S0, M) := by
  exact mQ hK [78, 84] 3 2 36 b_L_groupByReads_36 rfl _ _ _ h
set_option maxRecDepth 40000 in
theorem q_L_largestGroup_0 {cal : mCal} {lim : Nat × Nat} {scr : Nat × (Nat → Int)} {ret : Option mVal → mHp → Prop} {K : Nat → mLV → List mVal → mHp → Prop} (hK : mClo m_L_largestGroup cal lim scr ret K) (x1 : Int) (M : mMem) (h :
  K 4 [(0, vr 0), (1, vi x1), (2, vi 0), (3, vi 0)] [] (S0, M)) :
  K 0 [(0, vr 0), (1, vi x1)] [] (S0, M) := by
  exact mQ hK [32] 2 0 0 b_L_largestGroup_0 rfl _ _ _ h
set_option maxRecDepth 40000 in
theorem q_L_largestGroup_4 {cal : mCal} {lim : Nat × Nat} {scr : Nat × (Nat → Int)} {ret : Option mVal → mHp → Prop} {K : Nat → mLV → List mVal → mHp → Prop} (hK : mClo m_L_largestGroup cal lim scr ret K) (x1 : Int) (x2 : Int) (x3 : Int) (M : mMem) (h :
  ((60 < x3 →
    ret (some (vi x2)) (S0, M)) ∧ (¬ (60 < x3) →
    mIn (w32 ((w32 (x1 * 61)) + x3)) 305 (K 4 [(0, vr 0), (1, vi x1), (2, vi (if x2 ≤ (M 43 (w32 ((w32 (x1 * 61)) + x3))) then M 43 (w32 ((w32 (x1 * 61)) + x3)) else x2)), (3, vi (w32 (x3 + 1)))] [] (S0, M))))) :
  K 4 [(0, vr 0), (1, vi x1), (2, vi x2), (3, vi x3)] [] (S0, M) := by
  exact mQ hK [32] 2 1 4 b_L_largestGroup_4 rfl _ _ _ h
