set_option maxRecDepth 40000 in
theorem q_M_in_0 {cal : mCal} {lim : Nat × Nat} {scr : Nat × (Nat → Int)} {ret : Option mVal → mHp → Prop} {K : Nat → mLV → List mVal → mHp → Prop} (hK : mClo m_M_in cal lim scr ret K) (y0 : Int) (y2 : Int) (y4 : Int) (M : mMem) (h :
  (((jlcmp y0 y2) < 0 →
    ret (some (vi 0)) (S0, M)) ∧ (¬ ((jlcmp y0 y2) < 0) →
    ((0 < (jlcmp y0 y4) →
      ret (some (vi 0)) (S0, M)) ∧ (¬ (0 < (jlcmp y0 y4)) →
      ret (some (vi 1)) (S0, M)))))) :
  K 0 [(0, vl y0), (2, vl y2), (4, vl y4)] [] (S0, M) := by
  exact mQ hK [17, 18] 3 0 0 b_M_in_0 rfl _ _ _ h
set_option maxRecDepth 40000 in
theorem q_M_feed_0 {cal : mCal} {lim : Nat × Nat} {scr : Nat × (Nat → Int)} {ret : Option mVal → mHp → Prop} {K : Nat → mLV → List mVal → mHp → Prop} (hK : mClo m_M_feed cal lim scr ret K) (x1 : Int) (M : mMem) (h :
  (∃ v2 m1, cal 115 [vl x1, vl (0 : Nat), vl 127] (S0, M) (some (vi v2), (S0, m1)) ∧
  ((v2 ≠ 0 →
    (((m1 53 5) ≠ 160 →
      mIn (m1 53 5) 160 (ret (some (vi ((mupd (mupd m1 56 (m1 53 5) x1) 53 5 (w32 (((mupd m1 56 (m1 53 5) x1) 53 5) + 1))) 53 5))) (S0, mupd (mupd m1 56 (m1 53 5) x1) 53 5 (w32 (((mupd m1 56 (m1 53 5) x1) 53 5) + 1))))) ∧ (¬ ((m1 53 5) ≠ 160) →
      ret (some (vi (-3))) (S0, m1)))) ∧ (¬ (v2 ≠ 0) →
    ret (some (vi (-1))) (S0, m1))))) :
  K 0 [(0, vr 53), (1, vi x1)] [] (S0, M) := by
  exact mQ hK [14, 27] 3 0 0 b_M_feed_0 rfl _ _ _ h
set_option maxRecDepth 40000 in
theorem q_M_end_0 {cal : mCal} {lim : Nat × Nat} {scr : Nat × (Nat → Int)} {ret : Option mVal → mHp → Prop} {K : Nat → mLV → List mVal → mHp → Prop} (hK : mClo m_M_end cal lim scr ret K) (x1 : Int) (M : mMem) (h :
  (∃ v2 m1, cal 115 [vl x1, vl (0 : Nat), vl (M 53 5)] (S0, M) (some (vi v2), (S0, m1)) ∧
  ((v2 ≠ 0 →
    ret (some (vi (m1 53 5))) (S0, mupd m1 53 5 x1)) ∧ (¬ (v2 ≠ 0) →
    ret (some (vi (-1))) (S0, m1))))) :
  K 0 [(0, vr 53), (1, vi x1)] [] (S0, M) := by
  exact mQ hK [16] 2 0 0 b_M_end_0 rfl _ _ _ h
set_option maxRecDepth 40000 in
theorem q_M_byteAt_0 {cal : mCal} {lim : Nat × Nat} {scr : Nat × (Nat → Int)} {ret : Option mVal → mHp → Prop} {K : Nat → mLV → List mVal → mHp → Prop} (hK : mClo m_M_byteAt cal lim scr ret K) (x1 : Int) (M : mMem) (h :
  (((M 53 5) ≤ x1 →
    ret (some (vi (-4))) (S0, M)) ∧ (¬ ((M 53 5) ≤ x1) →
    mIn x1 160 (ret (some (vi (M 56 x1))) (S0, M))))) :
  K 0 [(0, vr 53), (1, vi x1)] [] (S0, M) := by
  exact mQ hK [17, 19] 3 0 0 b_M_byteAt_0 rfl _ _ _ h
set_option maxRecDepth 40000 in
theorem q_M_fails_0 {cal : mCal} {lim : Nat × Nat} {scr : Nat × (Nat → Int)} {ret : Option mVal → mHp → Prop} {K : Nat → mLV → List mVal → mHp → Prop} (hK : mClo m_M_fails cal lim scr ret K) (x1 : Int) (M : mMem) (h :
  (((M 53 7) ≠ 0 →
    ret none (S0, M)) ∧ (¬ ((M 53 7) ≠ 0) →
    ret none (S0, mupd (mupd M 53 7 x1) 53 8 ((mupd M 53 7 x1) 53 10))))) :
  K 0 [(0, vr 53), (1, vi x1)] [] (S0, M) := by
  exact mQ hK [20] 2 0 0 b_M_fails_0 rfl _ _ _ h
set_option maxRecDepth 40000 in
theorem q_M_nameHere_0 {cal : mCal} {lim : Nat × Nat} {scr : Nat × (Nat → Int)} {ret : Option mVal → mHp → Prop} {K : Nat → mLV → List mVal → mHp → Prop} (hK : mClo m_M_nameHere cal lim scr ret K)  (M : mMem) (h :
  K 2 [(0, vr 53), (1, vi 0)] [] (S0, M)) :
  K 0 [(0, vr 53)] [] (S0, M) := by
  exact mQ hK [47, 48, 98, 99, 106, 112, 118] 8 0 0 b_M_nameHere_0 rfl _ _ _ h
set_option maxRecDepth 40000 in
theorem q_M_nameHere_2 {cal : mCal} {lim : Nat × Nat} {scr : Nat × (Nat → Int)} {ret : Option mVal → mHp → Prop} {K : Nat → mLV → List mVal → mHp → Prop} (hK : mClo m_M_nameHere cal lim scr ret K) (x1 : Int) (M : mMem) (h :
  ((6 ≤ x1 →
    ret (some (vi (-4))) (S0, M)) ∧ (¬ (6 ≤ x1) →
    (((M 53 11) ≠ 1 →
      ret (some (vi (-4))) (S0, M)) ∧ (¬ ((M 53 11) ≠ 1) →
      mIn (w32 (x1 + 1)) 7 (mIn x1 7 ((((w32 ((M 53 9) - (M 53 10))) ≠ (w32 ((M 57 (w32 (x1 + 1))) - (M 57 x1))) →
        K 51 [(0, vr 53), (1, vi x1), (2, vi 0), (3, vi 0)] [] (S0, M)) ∧ (¬ ((w32 ((M 53 9) - (M 53 10))) ≠ (w32 ((M 57 (w32 (x1 + 1))) - (M 57 x1)))) →
        K 51 [(0, vr 53), (1, vi x1), (2, vi 1), (3, vi 0)] [] (S0, M)))))))))) :
  K 2 [(0, vr 53), (1, vi x1)] [] (S0, M) := by
  exact mQ hK [47, 48, 98, 99, 106, 112, 118] 8 1 2 b_M_nameHere_2 rfl _ _ _ h
set_option maxRecDepth 40000 in
theorem q_M_nameHere_51 {cal : mCal} {lim : Nat × Nat} {scr : Nat × (Nat → Int)} {ret : Option mVal → mHp → Prop} {K : Nat → mLV → List mVal → mHp → Prop} (hK : mClo m_M_nameHere cal lim scr ret K) (x1 : Int) (x2 : Int) (x3 : Int) (M : mMem) (h :
  ((x2 = 0 →
    ((x2 = 0 →
      K 2 [(0, vr 53), (1, vi (w32 (x1 + 1)))] [] (S0, M)) ∧ (¬ (x2 = 0) →
      ret (some (vi x1)) (S0, M)))) ∧ (¬ (x2 = 0) →
    (((w32 ((M 53 9) - (M 53 10))) ≤ x3 →
      ((x2 = 0 →
        K 2 [(0, vr 53), (1, vi (w32 (x1 + 1)))] [] (S0, M)) ∧ (¬ (x2 = 0) →
        ret (some (vi x1)) (S0, M)))) ∧ (¬ ((w32 ((M 53 9) - (M 53 10))) ≤ x3) →
      (∃ v2 m1, cal 118 [vr 53, vi (w32 ((M 53 10) + x3))] (S0, M) (some (vi v2), (S0, m1)) ∧
      mIn x1 7 (mIn (w32 ((m1 57 x1) + x3)) 31 (((v2 ≠ (m1 58 (w32 ((m1 57 x1) + x3))) →
        K 51 [(0, vr 53), (1, vi x1), (2, vi 0), (3, vi (w32 (x3 + 1)))] [] (S0, m1)) ∧ (¬ (v2 ≠ (m1 58 (w32 ((m1 57 x1) + x3)))) →
        K 51 [(0, vr 53), (1, vi x1), (2, vi 1), (3, vi (w32 (x3 + 1)))] [] (S0, m1))))))))))) :
  K 51 [(0, vr 53), (1, vi x1), (2, vi x2), (3, vi x3)] [] (S0, M) := by
  exact mQ hK [47, 48, 98, 99, 106, 112, 118] 8 4 51 b_M_nameHere_51 rfl _ _ _ h
set_option maxRecDepth 40000 in
theorem q_M_step_0 {cal : mCal} {lim : Nat × Nat} {scr : Nat × (Nat → Int)} {ret : Option mVal → mHp → Prop} {K : Nat → mLV → List mVal → mHp → Prop} (hK : mClo m_M_step cal lim scr ret K)  (M : mMem) (h :
  (((M 53 7) ≤ 0 →
    K 8 [(0, vr 53)] [] (S0, M)) ∧ (¬ ((M 53 7) ≤ 0) →
    ret none (S0, M)))) :
  K 0 [(0, vr 53)] [] (S0, M) := by
  exact mQ hK [34, 70, 118, 126, 197, 201, 217, 243, 269] 10 0 0 b_M_step_0 rfl _ _ _ h
set_option maxRecDepth 40000 in
theorem q_M_step_8 {cal : mCal} {lim : Nat × Nat} {scr : Nat × (Nat → Int)} {ret : Option mVal → mHp → Prop} {K : Nat → mLV → List mVal → mHp → Prop} (hK : mClo m_M_step cal lim scr ret K)  (M : mMem) (h :
  (∃ v2 m1, cal 118 [vr 53, vi (M 53 9)] (S0, M) (some (vi v2), (S0, m1)) ∧
  ((v2 ≠ 32 →
    (∃ v4 m3, cal 118 [vr 53, vi ((mupd m1 53 10 (m1 53 9)) 53 9)] (S0, mupd m1 53 10 (m1 53 9)) (some (vi v4), (S0, m3)) ∧
    ((v4 ≠ (-4) →
      (∃ v6 m5, cal 115 [vl v4, vl 97, vl 122] (S0, mupd m3 53 12 0) (some (vi v6), (S0, m5)) ∧
      ((v6 = 0 →
        (∃ v8 m7, cal 115 [vl v4, vl 48, vl 57] (S0, m5) (some (vi v8), (S0, m7)) ∧
        ((v8 = 0 →
          ((v4 = 59 →
            ret none (S0, mupd (mupd m7 53 11 3) 53 9 (w32 (((mupd m7 53 11 3) 53 9) + 1)))) ∧ (¬ (v4 = 59) →
            (∃ m9, cal 119 [vr 53, vi 1] (S0, mupd (mupd m7 53 11 3) 53 9 (w32 (((mupd m7 53 11 3) 53 9) + 1))) (none, (S0, m9)) ∧
            ret none (S0, m9))))) ∧ (¬ (v8 = 0) →
          K 140 [(0, vr 53)] [] (S0, m7))))) ∧ (¬ (v6 = 0) →
        K 84 [(0, vr 53)] [] (S0, m5))))) ∧ (¬ (v4 ≠ (-4)) →
      ret none (S0, mupd (mupd m3 53 12 0) 53 11 0))))) ∧ (¬ (v2 ≠ 32) →
    K 8 [(0, vr 53)] [] (S0, mupd m1 53 9 (w32 ((m1 53 9) + 1))))))) :
  K 8 [(0, vr 53)] [] (S0, M) := by
  exact mQ hK [34, 70, 118, 126, 197, 201, 217, 243, 269] 10 1 8 b_M_step_8 rfl _ _ _ h
set_option maxRecDepth 40000 in
theorem q_M_step_84 {cal : mCal} {lim : Nat × Nat} {scr : Nat × (Nat → Int)} {ret : Option mVal → mHp → Prop} {K : Nat → mLV → List mVal → mHp → Prop} (hK : mClo m_M_step cal lim scr ret K)  (M : mMem) (h :
  (∃ v2 m1, cal 118 [vr 53, vi (M 53 9)] (S0, M) (some (vi v2), (S0, m1)) ∧
  (∃ v4 m3, cal 115 [vl v2, vl 97, vl 122] (S0, m1) (some (vi v4), (S0, m3)) ∧
  ((v4 = 0 →
    ret none (S0, mupd m3 53 11 1)) ∧ (¬ (v4 = 0) →
    K 84 [(0, vr 53)] [] (S0, mupd m3 53 9 (w32 ((m3 53 9) + 1)))))))) :
  K 84 [(0, vr 53)] [] (S0, M) := by
  exact mQ hK [34, 70, 118, 126, 197, 201, 217, 243, 269] 10 4 84 b_M_step_84 rfl _ _ _ h
set_option maxRecDepth 40000 in
theorem q_M_step_140 {cal : mCal} {lim : Nat × Nat} {scr : Nat × (Nat → Int)} {ret : Option mVal → mHp → Prop} {K : Nat → mLV → List mVal → mHp → Prop} (hK : mClo m_M_step cal lim scr ret K)  (M : mMem) (h :
  (∃ v2 m1, cal 118 [vr 53, vi (M 53 9)] (S0, M) (some (vi v2), (S0, m1)) ∧
  (∃ v4 m3, cal 115 [vl v2, vl 48, vl 57] (S0, m1) (some (vi v4), (S0, m3)) ∧
  ((v4 = 0 →
    (((w32 (((mupd m3 53 11 2) 53 9) - ((mupd m3 53 11 2) 53 10))) ≤ 2 →
      ret none (S0, mupd m3 53 11 2)) ∧ (¬ ((w32 (((mupd m3 53 11 2) 53 9) - ((mupd m3 53 11 2) 53 10))) ≤ 2) →
      (∃ m5, cal 119 [vr 53, vi 1] (S0, mupd m3 53 11 2) (none, (S0, m5)) ∧
      ret none (S0, m5))))) ∧ (¬ (v4 = 0) →
    ((2 ≤ (w32 ((m3 53 9) - (m3 53 10))) →
      K 140 [(0, vr 53)] [] (S0, mupd (mupd m3 53 12 (m3 53 12)) 53 9 (w32 (((mupd m3 53 12 (m3 53 12)) 53 9) + 1)))) ∧ (¬ (2 ≤ (w32 ((m3 53 9) - (m3 53 10)))) →
      (∃ v7 m6, cal 118 [vr 53, vi (m3 53 9)] (S0, m3) (some (vi v7), (S0, m6)) ∧
      K 140 [(0, vr 53)] [] (S0, mupd (mupd m6 53 12 (w32 ((w32 ((w32 (10 * (m3 53 12))) + v7)) - 48))) 53 9 (w32 (((mupd m6 53 12 (w32 ((w32 ((w32 (10 * (m3 53 12))) + v7)) - 48))) 53 9) + 1))))))))))) :
  K 140 [(0, vr 53)] [] (S0, M) := by
  exact mQ hK [34, 70, 118, 126, 197, 201, 217, 243, 269] 10 7 140 b_M_step_140 rfl _ _ _ h
set_option maxRecDepth 40000 in
theorem q_M_other_0 {cal : mCal} {lim : Nat × Nat} {scr : Nat × (Nat → Int)} {ret : Option mVal → mHp → Prop} {K : Nat → mLV → List mVal → mHp → Prop} (hK : mClo m_M_other cal lim scr ret K) (x1 : Int) (x2 : Int) (x3 : Int) (M : mMem) (h :
  (((M 53 7) ≠ 0 →
    K 20 [(0, vr 53), (1, vi x1), (2, vi x2), (3, vi x3)] [] (S0, M)) ∧ (¬ ((M 53 7) ≠ 0) →
    (((M 53 11) = 2 →
      K 20 [(0, vr 53), (1, vi x1), (2, vi x2), (3, vi x3)] [] (S0, M)) ∧ (¬ ((M 53 11) = 2) →
      (∃ m1, cal 119 [vr 53, vi 2] (S0, M) (none, (S0, m1)) ∧
      K 20 [(0, vr 53), (1, vi x1), (2, vi x2), (3, vi x3)] [] (S0, m1))))))) :
  K 0 [(0, vr 53), (1, vi x1), (2, vi x2), (3, vi x3)] [] (S0, M) := by
  exact mQ hK [89, 90] 3 0 0 b_M_other_0 rfl _ _ _ h
set_option maxRecDepth 40000 in
theorem q_M_other_20 {cal : mCal} {lim : Nat × Nat} {scr : Nat × (Nat → Int)} {ret : Option mVal → mHp → Prop} {K : Nat → mLV → List mVal → mHp → Prop} (hK : mClo m_M_other cal lim scr ret K) (x1 : Int) (x2 : Int) (x3 : Int) (M : mMem) (h :
  (((M 53 7) ≠ 0 →
    K 47 [(0, vr 53), (1, vi x1), (3, vi x3)] [] (S0, M)) ∧ (¬ ((M 53 7) ≠ 0) →
    (∃ v2 m1, cal 115 [vl (M 53 12), vl x1, vl x2] (S0, M) (some (vi v2), (S0, m1)) ∧
    ((v2 ≠ 0 →
      K 47 [(0, vr 53), (1, vi x1), (3, vi x3)] [] (S0, m1)) ∧ (¬ (v2 ≠ 0) →
      (∃ m3, cal 119 [vr 53, vi 3] (S0, m1) (none, (S0, m3)) ∧
      K 47 [(0, vr 53), (1, vi x1), (3, vi x3)] [] (S0, m3)))))))) :
  K 20 [(0, vr 53), (1, vi x1), (2, vi x2), (3, vi x3)] [] (S0, M) := by
  exact mQ hK [89, 90] 3 1 20 b_M_other_20 rfl _ _ _ h
set_option maxRecDepth 40000 in
theorem q_M_other_47 {cal : mCal} {lim : Nat × Nat} {scr : Nat × (Nat → Int)} {ret : Option mVal → mHp → Prop} {K : Nat → mLV → List mVal → mHp → Prop} (hK : mClo m_M_other cal lim scr ret K) (x1 : Int) (x3 : Int) (M : mMem) (h :
  (((M 53 7) ≠ 0 →
    K 75 [(0, vr 53), (1, vi x1)] [] (S0, M)) ∧ (¬ ((M 53 7) ≠ 0) →
    ((x3 = 0 →
      K 75 [(0, vr 53), (1, vi x1)] [] (S0, M)) ∧ (¬ (x3 = 0) →
      (((jand (jshr x3 (M 53 12)) 1) ≠ 1 →
        K 75 [(0, vr 53), (1, vi x1)] [] (S0, M)) ∧ (¬ ((jand (jshr x3 (M 53 12)) 1) ≠ 1) →
        (∃ m1, cal 119 [vr 53, vi 4] (S0, M) (none, (S0, m1)) ∧
        K 75 [(0, vr 53), (1, vi x1)] [] (S0, m1))))))))) :
  K 47 [(0, vr 53), (1, vi x1), (3, vi x3)] [] (S0, M) := by
  exact mQ hK [89, 90] 3 2 47 b_M_other_47 rfl _ _ _ h
set_option maxRecDepth 40000 in
theorem q_M_other_75 {cal : mCal} {lim : Nat × Nat} {scr : Nat × (Nat → Int)} {ret : Option mVal → mHp → Prop} {K : Nat → mLV → List mVal → mHp → Prop} (hK : mClo m_M_other cal lim scr ret K) (x1 : Int) (M : mMem) (h :
  (((M 53 7) ≠ 0 →
    (∃ m1, cal 121 [vr 53] (S0, M) (none, (S0, m1)) ∧
    ret (some (vi x1)) (S0, m1))) ∧ (¬ ((M 53 7) ≠ 0) →
    (∃ m2, cal 121 [vr 53] (S0, M) (none, (S0, m2)) ∧
    ret (some (vi (M 53 12))) (S0, m2))))) :
  K 75 [(0, vr 53), (1, vi x1)] [] (S0, M) := by
  exact mQ hK [89, 90] 3 3 75 b_M_other_75 rfl _ _ _ h
set_option maxRecDepth 40000 in
theorem q_M_readRow_0 {cal : mCal} {lim : Nat × Nat} {scr : Nat × (Nat → Int)} {ret : Option mVal → mHp → Prop} {K : Nat → mLV → List mVal → mHp → Prop} (hK : mClo m_M_readRow cal lim scr ret K)  (M : mMem) (h :
  (∃ v2 m1, cal 122 [vr 53, vi 0, vi 5, vi (M 53 2)] (S0, M) (some (vi v2), (S0, m1)) ∧
  K 25 [(0, vr 53), (1, vi v2), (2, vi 0)] [] (S0, mupd m1 53 2 (jor (m1 53 2) (jshl 1 v2))))) :
  K 0 [(0, vr 53)] [] (S0, M) := by
  exact mQ hK [54, 78] 3 0 0 b_M_readRow_0 rfl _ _ _ h
set_option maxRecDepth 40000 in
theorem q_M_readRow_25 {cal : mCal} {lim : Nat × Nat} {scr : Nat × (Nat → Int)} {ret : Option mVal → mHp → Prop} {K : Nat → mLV → List mVal → mHp → Prop} (hK : mClo m_M_readRow cal lim scr ret K) (x1 : Int) (x2 : Int) (M : mMem) (h :
  (((M 53 7) ≠ 0 →
    ret none (S0, M)) ∧ (¬ ((M 53 7) ≠ 0) →
    (((M 53 11) ≠ 2 →
      ret none (S0, M)) ∧ (¬ ((M 53 11) ≠ 2) →
      ((x2 ≠ 6 →
        (∃ v2 m1, cal 122 [vr 53, vi 0, vi 4, vi 0] (S0, M) (some (vi v2), (S0, m1)) ∧
        mIn (w32 ((w32 (6 * x2)) + x1)) 85 (K 25 [(0, vr 53), (1, vi x1), (2, vi (w32 (x2 + 1)))] [] (S0, mupd m1 55 (w32 ((w32 (6 * x2)) + x1)) v2)))) ∧ (¬ (x2 ≠ 6) →
        (∃ m3, cal 119 [vr 53, vi 5] (S0, M) (none, (S0, m3)) ∧
        K 25 [(0, vr 53), (1, vi x1), (2, vi x2)] [] (S0, m3))))))))) :
  K 25 [(0, vr 53), (1, vi x1), (2, vi x2)] [] (S0, M) := by
  exact mQ hK [54, 78] 3 1 25 b_M_readRow_25 rfl _ _ _ h
set_option maxRecDepth 40000 in
theorem q_M_readMore_0 {cal : mCal} {lim : Nat × Nat} {scr : Nat × (Nat → Int)} {ret : Option mVal → mHp → Prop} {K : Nat → mLV → List mVal → mHp → Prop} (hK : mClo m_M_readMore cal lim scr ret K) (x1 : Int) (M : mMem) (h :
  ((3 < x1 →
    ((x1 ≠ 4 →
      (∃ v2 m1, cal 122 [vr 53, vi 1, vi 3, vi (M 53 3)] (S0, M) (some (vi v2), (S0, m1)) ∧
      (∃ v4 m3, cal 122 [vr 53, vi 0, vi 99, vi 0] (S0, mupd m1 53 3 (jor (m1 53 3) (jshl 1 v2))) (some (vi v4), (S0, m3)) ∧
      mIn (w32 ((w32 (36 + v2)) - 1)) 85 (ret none (S0, mupd m3 55 (w32 ((w32 (36 + v2)) - 1)) (w32 (v4 - 20))))))) ∧ (¬ (x1 ≠ 4) →
      (∃ m5, cal 123 [vr 53] (S0, M) (none, (S0, m5)) ∧
      ret none (S0, m5))))) ∧ (¬ (3 < x1) →
    mIn (w32 (40 + (M 55 39))) 85 ((∃ v7 m6, cal 122 [vr 53, vi 1, vi 3, vi 0] (S0, mupd M 55 (w32 (40 + (M 55 39))) x1) (some (vi v7), (S0, m6)) ∧
    mIn (w32 (45 + (M 55 39))) 85 ((∃ v9 m8, cal 122 [vr 53, vi 1, vi 3, vi 0] (S0, mupd m6 55 (w32 (45 + (M 55 39))) v7) (some (vi v9), (S0, m8)) ∧
    mIn (w32 (50 + (M 55 39))) 85 ((∃ v11 m10, cal 122 [vr 53, vi 1, vi 9, vi 0] (S0, mupd m8 55 (w32 (50 + (M 55 39))) v9) (some (vi v11), (S0, m10)) ∧
    mIn (w32 (55 + (M 55 39))) 85 (ret none (S0, mupd (mupd m10 55 (w32 (55 + (M 55 39))) v11) 55 39 (w32 (((mupd m10 55 (w32 (55 + (M 55 39))) v11) 55 39) + 1))))))))))))) :
  K 0 [(0, vr 53), (1, vi x1)] [] (S0, M) := by
  exact mQ hK [86, 98, 143] 4 0 0 b_M_readMore_0 rfl _ _ _ h
set_option maxRecDepth 40000 in
theorem q_M_readLine_0 {cal : mCal} {lim : Nat × Nat} {scr : Nat × (Nat → Int)} {ret : Option mVal → mHp → Prop} {K : Nat → mLV → List mVal → mHp → Prop} (hK : mClo m_M_readLine cal lim scr ret K)  (M : mMem) (h :
  (∃ v2 m1, cal 120 [vr 53] (S0, M) (some (vi v2), (S0, m1)) ∧
  (∃ v4 m3, cal 115 [vl v2, vl (0 : Nat), vl 5] (S0, m1) (some (vi v4), (S0, m3)) ∧
  ((v4 ≠ 0 →
    ((3 < v2 →
      K 44 [(0, vr 53), (1, vi v2)] [] (S0, m3)) ∧ (¬ (3 < v2) →
      (((m3 55 39) ≠ 5 →
        K 44 [(0, vr 53), (1, vi v2)] [] (S0, m3)) ∧ (¬ ((m3 55 39) ≠ 5) →
        (∃ m5, cal 119 [vr 53, vi 5] (S0, m3) (none, (S0, m5)) ∧
        K 44 [(0, vr 53), (1, vi v2)] [] (S0, m5))))))) ∧ (¬ (v4 ≠ 0) →
    (∃ m6, cal 119 [vr 53, vi 2] (S0, m3) (none, (S0, m6)) ∧
    ret none (S0, m6))))))) :
  K 0 [(0, vr 53)] [] (S0, M) := by
  exact mQ hK [23, 56, 81] 4 0 0 b_M_readLine_0 rfl _ _ _ h
set_option maxRecDepth 40000 in
theorem q_M_readLine_44 {cal : mCal} {lim : Nat × Nat} {scr : Nat × (Nat → Int)} {ret : Option mVal → mHp → Prop} {K : Nat → mLV → List mVal → mHp → Prop} (hK : mClo m_M_readLine cal lim scr ret K) (x1 : Int) (M : mMem) (h :
  (∃ m1, cal 121 [vr 53] (S0, M) (none, (S0, m1)) ∧
  (((m1 53 7) ≤ 0 →
    (∃ m2, cal 124 [vr 53, vi x1] (S0, m1) (none, (S0, m2)) ∧
    (((m2 53 7) ≠ 0 →
      (∃ m3, cal 121 [vr 53] (S0, m2) (none, (S0, m3)) ∧
      ret none (S0, m3))) ∧ (¬ ((m2 53 7) ≠ 0) →
      (((m2 53 11) = 3 →
        (∃ m4, cal 121 [vr 53] (S0, m2) (none, (S0, m4)) ∧
        ret none (S0, m4))) ∧ (¬ ((m2 53 11) = 3) →
        (∃ m5, cal 119 [vr 53, vi 2] (S0, m2) (none, (S0, m5)) ∧
        (∃ m6, cal 121 [vr 53] (S0, m5) (none, (S0, m6)) ∧
        ret none (S0, m6))))))))) ∧ (¬ ((m1 53 7) ≤ 0) →
    ret none (S0, m1))))) :
  K 44 [(0, vr 53), (1, vi x1)] [] (S0, M) := by
  exact mQ hK [23, 56, 81] 4 2 44 b_M_readLine_44 rfl _ _ _ h
set_option maxRecDepth 40000 in
theorem q_M_text_0 {cal : mCal} {lim : Nat × Nat} {scr : Nat × (Nat → Int)} {ret : Option mVal → mHp → Prop} {K : Nat → mLV → List mVal → mHp → Prop} (hK : mClo m_M_text cal lim scr ret K)  (M : mMem) (h :
  K 24 [(0, vr 53), (1, vi 0), (2, vi 0)] [] (S0, mupd (mupd (mupd (mupd M 53 7 0) 53 9 0) 53 2 0) 53 3 0)) :
  K 0 [(0, vr 53)] [] (S0, M) := by
  exact mQ hK [43, 99, 125] 4 0 0 b_M_text_0 rfl _ _ _ h
set_option maxRecDepth 40000 in
theorem q_M_text_24 {cal : mCal} {lim : Nat × Nat} {scr : Nat × (Nat → Int)} {ret : Option mVal → mHp → Prop} {K : Nat → mLV → List mVal → mHp → Prop} (hK : mClo m_M_text cal lim scr ret K) (x1 : Int) (x2 : Int) (M : mMem) (h :
  ((85 ≤ x2 →
    (∃ m1, cal 121 [vr 53] (S0, M) (none, (S0, m1)) ∧
    K 47 [(0, vr 53), (1, vi x1)] [] (S0, m1))) ∧ (¬ (85 ≤ x2) →
    mIn x2 85 (K 24 [(0, vr 53), (1, vi x1), (2, vi (w32 (x2 + 1)))] [] (S0, mupd M 55 x2 0))))) :
  K 24 [(0, vr 53), (1, vi x1), (2, vi x2)] [] (S0, M) := by
  exact mQ hK [43, 99, 125] 4 1 24 b_M_text_24 rfl _ _ _ h
set_option maxRecDepth 40000 in
theorem q_M_text_47 {cal : mCal} {lim : Nat × Nat} {scr : Nat × (Nat → Int)} {ret : Option mVal → mHp → Prop} {K : Nat → mLV → List mVal → mHp → Prop} (hK : mClo m_M_text cal lim scr ret K) (x1 : Int) (M : mMem) (h :
  (((M 53 7) ≠ 0 →
    K 71 [(0, vr 53), (1, vi x1)] [] (S0, M)) ∧ (¬ ((M 53 7) ≠ 0) →
    (((M 53 11) = 0 →
      K 71 [(0, vr 53), (1, vi x1)] [] (S0, M)) ∧ (¬ ((M 53 11) = 0) →
      (∃ m1, cal 125 [vr 53] (S0, M) (none, (S0, m1)) ∧
      K 47 [(0, vr 53), (1, vi (w32 (x1 + 1)))] [] (S0, m1))))))) :
  K 47 [(0, vr 53), (1, vi x1)] [] (S0, M) := by
  exact mQ hK [43, 99, 125] 4 3 47 b_M_text_47 rfl _ _ _ h
set_option maxRecDepth 40000 in
theorem q_M_text_71 {cal : mCal} {lim : Nat × Nat} {scr : Nat × (Nat → Int)} {ret : Option mVal → mHp → Prop} {K : Nat → mLV → List mVal → mHp → Prop} (hK : mClo m_M_text cal lim scr ret K) (x1 : Int) (M : mMem) (h :
  ((((mupd (mupd M 53 5 0) 53 6 ((mupd M 53 5 0) 53 7)) 53 7) ≤ 0 →
    K 101 [(0, vr 53), (1, vi x1), (2, vi 0)] [] (S0, mupd (mupd M 53 5 0) 53 6 ((mupd M 53 5 0) 53 7))) ∧ (¬ (((mupd (mupd M 53 5 0) 53 6 ((mupd M 53 5 0) 53 7)) 53 7) ≤ 0) →
    ret (some (vi (w32 ((-10) - ((mupd (mupd M 53 5 0) 53 6 ((mupd M 53 5 0) 53 7)) 53 8))))) (S0, mupd (mupd M 53 5 0) 53 6 ((mupd M 53 5 0) 53 7))))) :
  K 71 [(0, vr 53), (1, vi x1)] [] (S0, M) := by
  exact mQ hK [43, 99, 125] 4 4 71 b_M_text_71 rfl _ _ _ h
set_option maxRecDepth 40000 in
theorem q_M_text_101 {cal : mCal} {lim : Nat × Nat} {scr : Nat × (Nat → Int)} {ret : Option mVal → mHp → Prop} {K : Nat → mLV → List mVal → mHp → Prop} (hK : mClo m_M_text cal lim scr ret K) (x1 : Int) (x2 : Int) (M : mMem) (h :
  ((85 ≤ x2 →
    ret (some (vi x1)) (S0, mupd (mupd (mupd M 53 22 0) 63 0 0) 63 1 0)) ∧ (¬ (85 ≤ x2) →
    mIn x2 85 (mIn x2 510 (K 101 [(0, vr 53), (1, vi x1), (2, vi (w32 (x2 + 1)))] [] (S0, mupd M 54 x2 (M 55 x2))))))) :
  K 101 [(0, vr 53), (1, vi x1), (2, vi x2)] [] (S0, M) := by
  exact mQ hK [43, 99, 125] 4 6 101 b_M_text_101 rfl _ _ _ h
set_option maxRecDepth 40000 in
theorem q_M_fault_0 {cal : mCal} {lim : Nat × Nat} {scr : Nat × (Nat → Int)} {ret : Option mVal → mHp → Prop} {K : Nat → mLV → List mVal → mHp → Prop} (hK : mClo m_M_fault cal lim scr ret K)  (M : mMem) (h :
  ret (some (vi (M 53 6))) (S0, M)) :
  K 0 [(0, vr 53)] [] (S0, M) := by
  exact mQ hK [] 1 0 0 b_M_fault_0 rfl _ _ _ h
set_option maxRecDepth 40000 in
theorem q_M_isLaw_0 {cal : mCal} {lim : Nat × Nat} {scr : Nat × (Nat → Int)} {ret : Option mVal → mHp → Prop} {K : Nat → mLV → List mVal → mHp → Prop} (hK : mClo m_M_isLaw cal lim scr ret K) (x1 : Int) (M : mMem) (h :
  (∃ v2 m1, cal 115 [vl x1, vl (0 : Nat), vl (w32 ((M 54 39) - 1))] (S0, M) (some (vi v2), (S0, m1)) ∧
  mBo v2 (ret (some (vi v2)) (S0, m1)))) :
  K 0 [(0, vr 53), (1, vi x1)] [] (S0, M) := by
  exact mQ hK [] 1 0 0 b_M_isLaw_0 rfl _ _ _ h
set_option maxRecDepth 40000 in
theorem q_M_isCell_0 {cal : mCal} {lim : Nat × Nat} {scr : Nat × (Nat → Int)} {ret : Option mVal → mHp → Prop} {K : Nat → mLV → List mVal → mHp → Prop} (hK : mClo m_M_isCell cal lim scr ret K) (x0 : Int) (x1 : Int) (M : mMem) (h :
  (∃ v2 m1, cal 115 [vl x0, vl (0 : Nat), vl 5] (S0, M) (some (vi v2), (S0, m1)) ∧
  ((v2 = 0 →
    ret (some (vi 0)) (S0, m1)) ∧ (¬ (v2 = 0) →
    (∃ v4 m3, cal 115 [vl x1, vl (0 : Nat), vl 5] (S0, m1) (some (vi v4), (S0, m3)) ∧
    ((v4 = 0 →
      ret (some (vi 0)) (S0, m3)) ∧ (¬ (v4 = 0) →
      ret (some (vi 1)) (S0, m3)))))))) :
  K 0 [(0, vi x0), (1, vi x1)] [] (S0, M) := by
  exact mQ hK [28, 29] 3 0 0 b_M_isCell_0 rfl _ _ _ h
set_option maxRecDepth 40000 in
theorem q_M_isColour_0 {cal : mCal} {lim : Nat × Nat} {scr : Nat × (Nat → Int)} {ret : Option mVal → mHp → Prop} {K : Nat → mLV → List mVal → mHp → Prop} (hK : mClo m_M_isColour cal lim scr ret K) (x0 : Int) (M : mMem) (h :
  (∃ v2 m1, cal 115 [vl x0, vl (1 : Nat), vl 3] (S0, M) (some (vi v2), (S0, m1)) ∧
  mBo v2 (ret (some (vi v2)) (S0, m1)))) :
  K 0 [(0, vi x0)] [] (S0, M) := by
  exact mQ hK [] 1 0 0 b_M_isColour_0 rfl _ _ _ h
set_option maxRecDepth 40000 in
theorem q_M_besideOn_0 {cal : mCal} {lim : Nat × Nat} {scr : Nat × (Nat → Int)} {ret : Option mVal → mHp → Prop} {K : Nat → mLV → List mVal → mHp → Prop} (hK : mClo m_M_besideOn cal lim scr ret K) (x1 : Int) (x2 : Int) (x3 : Int) (M : mMem) (h :
  K 6 [(0, vr 53), (1, vi x1), (2, vi x2), (3, vi x3), (4, vi 0), (5, vi 0)] [] (S0, M)) :
  K 0 [(0, vr 53), (1, vi x1), (2, vi x2), (3, vi x3)] [] (S0, M) := by
  exact mQ hK [48, 49, 58] 4 0 0 b_M_besideOn_0 rfl _ _ _ h
set_option maxRecDepth 40000 in
theorem q_M_besideOn_6 {cal : mCal} {lim : Nat × Nat} {scr : Nat × (Nat → Int)} {ret : Option mVal → mHp → Prop} {K : Nat → mLV → List mVal → mHp → Prop} (hK : mClo m_M_besideOn cal lim scr ret K) (x1 : Int) (x2 : Int) (x3 : Int) (x4 : Int) (x5 : Int) (M : mMem) (h :
  ((30 ≤ x5 →
    ret (some (vi x4)) (S0, M)) ∧ (¬ (30 ≤ x5) →
    mIn (w32 (x1 + x5)) 510 ((((M 54 (w32 (x1 + x5))) ≠ x2 →
      K 6 [(0, vr 53), (1, vi x1), (2, vi x2), (3, vi x3), (4, vi (w32 (x4 + 0))), (5, vi (w32 (x5 + 1)))] [] (S0, M)) ∧ (¬ ((M 54 (w32 (x1 + x5))) ≠ x2) →
      mIn (w32 ((w32 (x1 + x5)) + 6)) 510 ((((M 54 (w32 ((w32 (x1 + x5)) + 6))) ≠ x3 →
        K 6 [(0, vr 53), (1, vi x1), (2, vi x2), (3, vi x3), (4, vi (w32 (x4 + 0))), (5, vi (w32 (x5 + 1)))] [] (S0, M)) ∧ (¬ ((M 54 (w32 ((w32 (x1 + x5)) + 6))) ≠ x3) →
        K 6 [(0, vr 53), (1, vi x1), (2, vi x2), (3, vi x3), (4, vi (w32 (x4 + 1))), (5, vi (w32 (x5 + 1)))] [] (S0, M)))))))))) :
  K 6 [(0, vr 53), (1, vi x1), (2, vi x2), (3, vi x3), (4, vi x4), (5, vi x5)] [] (S0, M) := by
  exact mQ hK [48, 49, 58] 4 1 6 b_M_besideOn_6 rfl _ _ _ h
set_option maxRecDepth 40000 in
theorem q_M_aboveOn_0 {cal : mCal} {lim : Nat × Nat} {scr : Nat × (Nat → Int)} {ret : Option mVal → mHp → Prop} {K : Nat → mLV → List mVal → mHp → Prop} (hK : mClo m_M_aboveOn cal lim scr ret K) (x1 : Int) (x2 : Int) (x3 : Int) (M : mMem) (h :
  K 6 [(0, vr 53), (1, vi x1), (2, vi x2), (3, vi x3), (4, vi 0), (5, vi 0)] [] (S0, M)) :
  K 0 [(0, vr 53), (1, vi x1), (2, vi x2), (3, vi x3)] [] (S0, M) := by
  exact mQ hK [56, 57, 66] 4 0 0 b_M_aboveOn_0 rfl _ _ _ h
set_option maxRecDepth 40000 in
theorem q_M_aboveOn_6 {cal : mCal} {lim : Nat × Nat} {scr : Nat × (Nat → Int)} {ret : Option mVal → mHp → Prop} {K : Nat → mLV → List mVal → mHp → Prop} (hK : mClo m_M_aboveOn cal lim scr ret K) (x1 : Int) (x2 : Int) (x3 : Int) (x4 : Int) (x5 : Int) (M : mMem) (h :
  ((36 ≤ x5 →
    ret (some (vi x4)) (S0, M)) ∧ (¬ (36 ≤ x5) →
    ((5 ≤ (jrem x5 6) →
      K 6 [(0, vr 53), (1, vi x1), (2, vi x2), (3, vi x3), (4, vi (w32 (x4 + 0))), (5, vi (w32 (x5 + 1)))] [] (S0, M)) ∧ (¬ (5 ≤ (jrem x5 6)) →
      mIn (w32 (x1 + x5)) 510 ((((M 54 (w32 (x1 + x5))) ≠ x2 →
        K 6 [(0, vr 53), (1, vi x1), (2, vi x2), (3, vi x3), (4, vi (w32 (x4 + 0))), (5, vi (w32 (x5 + 1)))] [] (S0, M)) ∧ (¬ ((M 54 (w32 (x1 + x5))) ≠ x2) →
        mIn (w32 ((w32 (x1 + x5)) + 1)) 510 ((((M 54 (w32 ((w32 (x1 + x5)) + 1))) ≠ x3 →
          K 6 [(0, vr 53), (1, vi x1), (2, vi x2), (3, vi x3), (4, vi (w32 (x4 + 0))), (5, vi (w32 (x5 + 1)))] [] (S0, M)) ∧ (¬ ((M 54 (w32 ((w32 (x1 + x5)) + 1))) ≠ x3) →
          K 6 [(0, vr 53), (1, vi x1), (2, vi x2), (3, vi x3), (4, vi (w32 (x4 + 1))), (5, vi (w32 (x5 + 1)))] [] (S0, M)))))))))))) :
  K 6 [(0, vr 53), (1, vi x1), (2, vi x2), (3, vi x3), (4, vi x4), (5, vi x5)] [] (S0, M) := by
  exact mQ hK [56, 57, 66] 4 1 6 b_M_aboveOn_6 rfl _ _ _ h
set_option maxRecDepth 40000 in
theorem q_M_readsOn_0 {cal : mCal} {lim : Nat × Nat} {scr : Nat × (Nat → Int)} {ret : Option mVal → mHp → Prop} {K : Nat → mLV → List mVal → mHp → Prop} (hK : mClo m_M_readsOn cal lim scr ret K) (x1 : Int) (x2 : Int) (x3 : Int) (M : mMem) (h :
  mIn (w32 ((w32 (x1 + 40)) + x2)) 510 (mIn (w32 ((w32 (x1 + 45)) + x2)) 510 (mIn (w32 ((w32 (x1 + 50)) + x2)) 510 ((((M 54 (w32 ((w32 (x1 + 40)) + x2))) ≠ 1 →
    (((0 : Int) = x3 →
      K 59 [(0, vr 53), (1, vi x1), (4, vi (M 54 (w32 ((w32 (x1 + 40)) + x2)))), (5, vi (M 54 (w32 ((w32 (x1 + 45)) + x2)))), (6, vi (M 54 (w32 ((w32 (x1 + 50)) + x2))))] [vi 0] (S0, M)) ∧ (¬ ((0 : Int) = x3) →
      K 59 [(0, vr 53), (1, vi x1), (4, vi (M 54 (w32 ((w32 (x1 + 40)) + x2)))), (5, vi (M 54 (w32 ((w32 (x1 + 45)) + x2)))), (6, vi (M 54 (w32 ((w32 (x1 + 50)) + x2))))] [vi 1] (S0, M)))) ∧ (¬ ((M 54 (w32 ((w32 (x1 + 40)) + x2))) ≠ 1) →
    (((1 : Int) = x3 →
      K 59 [(0, vr 53), (1, vi x1), (4, vi (M 54 (w32 ((w32 (x1 + 40)) + x2)))), (5, vi (M 54 (w32 ((w32 (x1 + 45)) + x2)))), (6, vi (M 54 (w32 ((w32 (x1 + 50)) + x2))))] [vi 0] (S0, M)) ∧ (¬ ((1 : Int) = x3) →
      K 59 [(0, vr 53), (1, vi x1), (4, vi (M 54 (w32 ((w32 (x1 + 40)) + x2)))), (5, vi (M 54 (w32 ((w32 (x1 + 45)) + x2)))), (6, vi (M 54 (w32 ((w32 (x1 + 50)) + x2))))] [vi 1] (S0, M))))))))) :
  K 0 [(0, vr 53), (1, vi x1), (2, vi x2), (3, vi x3)] [] (S0, M) := by
  exact mQ hK [49, 50, 58, 71, 88, 119, 120] 8 0 0 b_M_readsOn_0 rfl _ _ _ h
set_option maxRecDepth 40000 in
theorem q_M_readsOn_59 {cal : mCal} {lim : Nat × Nat} {scr : Nat × (Nat → Int)} {ret : Option mVal → mHp → Prop} {K : Nat → mLV → List mVal → mHp → Prop} (hK : mClo m_M_readsOn cal lim scr ret K) (x1 : Int) (x4 : Int) (x5 : Int) (x6 : Int) (s0 : Int) (M : mMem) (h :
  ((x4 ≠ 2 →
    ((s0 = 0 →
      (∃ v2 m1, cal 131 [vr 53, vi x1, vi x5, vi x6] (S0, M) (some (vi v2), (S0, m1)) ∧
      K 97 [(0, vr 53), (1, vi x1), (4, vi x4), (5, vi x5), (6, vi x6)] [vi v2] (S0, m1))) ∧ (¬ (s0 = 0) →
      (∃ v4 m3, cal 131 [vr 53, vi x1, vi x6, vi x5] (S0, M) (some (vi v4), (S0, m3)) ∧
      K 97 [(0, vr 53), (1, vi x1), (4, vi x4), (5, vi x5), (6, vi x6)] [vi v4] (S0, m3))))) ∧ (¬ (x4 ≠ 2) →
    K 97 [(0, vr 53), (1, vi x1), (4, vi x4), (5, vi x5), (6, vi x6)] [vi 0] (S0, M)))) :
  K 59 [(0, vr 53), (1, vi x1), (4, vi x4), (5, vi x5), (6, vi x6)] [vi s0] (S0, M) := by
  exact mQ hK [49, 50, 58, 71, 88, 119, 120] 8 4 59 b_M_readsOn_59 rfl _ _ _ h
set_option maxRecDepth 40000 in
theorem q_M_readsOn_97 {cal : mCal} {lim : Nat × Nat} {scr : Nat × (Nat → Int)} {ret : Option mVal → mHp → Prop} {K : Nat → mLV → List mVal → mHp → Prop} (hK : mClo m_M_readsOn cal lim scr ret K) (x1 : Int) (x4 : Int) (x5 : Int) (x6 : Int) (s0 : Int) (M : mMem) (h :
  ((x4 ≤ 1 →
    ret (some (vi (w32 (s0 + 0)))) (S0, M)) ∧ (¬ (x4 ≤ 1) →
    (∃ v2 m1, cal 132 [vr 53, vi x1, vi x5, vi x6] (S0, M) (some (vi v2), (S0, m1)) ∧
    ret (some (vi (w32 (s0 + v2)))) (S0, m1))))) :
  K 97 [(0, vr 53), (1, vi x1), (4, vi x4), (5, vi x5), (6, vi x6)] [vi s0] (S0, M) := by
  exact mQ hK [49, 50, 58, 71, 88, 119, 120] 8 7 97 b_M_readsOn_97 rfl _ _ _ h
set_option maxRecDepth 40000 in
theorem q_M_worthOn_0 {cal : mCal} {lim : Nat × Nat} {scr : Nat × (Nat → Int)} {ret : Option mVal → mHp → Prop} {K : Nat → mLV → List mVal → mHp → Prop} (hK : mClo m_M_worthOn cal lim scr ret K) (x1 : Int) (M : mMem) (h :
  K 4 [(0, vr 53), (1, vi x1), (2, vi 0), (3, vi 0)] [] (S0, M)) :
  K 0 [(0, vr 53), (1, vi x1)] [] (S0, M) := by
  exact mQ hK [45] 2 0 0 b_M_worthOn_0 rfl _ _ _ h
set_option maxRecDepth 40000 in
theorem q_M_worthOn_4 {cal : mCal} {lim : Nat × Nat} {scr : Nat × (Nat → Int)} {ret : Option mVal → mHp → Prop} {K : Nat → mLV → List mVal → mHp → Prop} (hK : mClo m_M_worthOn cal lim scr ret K) (x1 : Int) (x2 : Int) (x3 : Int) (M : mMem) (h :
  mIn (w32 (x1 + 39)) 510 ((((M 54 (w32 (x1 + 39))) ≤ x3 →
    ret (some (vi x2)) (S0, M)) ∧ (¬ ((M 54 (w32 (x1 + 39))) ≤ x3) →
    mIn (w32 ((w32 (x1 + 55)) + x3)) 510 ((∃ v2 m1, cal 133 [vr 53, vi x1, vi x3, vi 0] (S0, M) (some (vi v2), (S0, m1)) ∧
    K 4 [(0, vr 53), (1, vi x1), (2, vi (w32 (x2 + (w32 ((M 54 (w32 ((w32 (x1 + 55)) + x3))) * v2))))), (3, vi (w32 (x3 + 1)))] [] (S0, m1))))))) :
  K 4 [(0, vr 53), (1, vi x1), (2, vi x2), (3, vi x3)] [] (S0, M) := by
  exact mQ hK [45] 2 1 4 b_M_worthOn_4 rfl _ _ _ h
set_option maxRecDepth 40000 in
theorem q_M_heldOn_0 {cal : mCal} {lim : Nat × Nat} {scr : Nat × (Nat → Int)} {ret : Option mVal → mHp → Prop} {K : Nat → mLV → List mVal → mHp → Prop} (hK : mClo m_M_heldOn cal lim scr ret K) (x1 : Int) (M : mMem) (h :
  K 4 [(0, vr 53), (1, vi x1), (2, vi 0), (3, vi 0)] [] (S0, M)) :
  K 0 [(0, vr 53), (1, vi x1)] [] (S0, M) := by
  exact mQ hK [34, 35, 43] 4 0 0 b_M_heldOn_0 rfl _ _ _ h
set_option maxRecDepth 40000 in
theorem q_M_heldOn_4 {cal : mCal} {lim : Nat × Nat} {scr : Nat × (Nat → Int)} {ret : Option mVal → mHp → Prop} {K : Nat → mLV → List mVal → mHp → Prop} (hK : mClo m_M_heldOn cal lim scr ret K) (x1 : Int) (x2 : Int) (x3 : Int) (M : mMem) (h :
  mIn (w32 (x1 + 39)) 510 ((((M 54 (w32 (x1 + 39))) ≤ x3 →
    ret (some (vi x2)) (S0, M)) ∧ (¬ ((M 54 (w32 (x1 + 39))) ≤ x3) →
    (∃ v2 m1, cal 133 [vr 53, vi x1, vi x3, vi 0] (S0, M) (some (vi v2), (S0, m1)) ∧
    ((v2 ≤ 0 →
      K 4 [(0, vr 53), (1, vi x1), (2, vi (jor x2 0)), (3, vi (w32 (x3 + 1)))] [] (S0, m1)) ∧ (¬ (v2 ≤ 0) →
      K 4 [(0, vr 53), (1, vi x1), (2, vi (jor x2 (jshl 1 x3))), (3, vi (w32 (x3 + 1)))] [] (S0, m1)))))))) :
  K 4 [(0, vr 53), (1, vi x1), (2, vi x2), (3, vi x3)] [] (S0, M) := by
  exact mQ hK [34, 35, 43] 4 1 4 b_M_heldOn_4 rfl _ _ _ h
set_option maxRecDepth 40000 in
theorem q_M_holesOn_0 {cal : mCal} {lim : Nat × Nat} {scr : Nat × (Nat → Int)} {ret : Option mVal → mHp → Prop} {K : Nat → mLV → List mVal → mHp → Prop} (hK : mClo m_M_holesOn cal lim scr ret K) (x1 : Int) (M : mMem) (h :
  K 4 [(0, vr 53), (1, vi x1), (2, vi 0), (3, vi 0)] [] (S0, M)) :
  K 0 [(0, vr 53), (1, vi x1)] [] (S0, M) := by
  exact mQ hK [27, 28, 36] 4 0 0 b_M_holesOn_0 rfl _ _ _ h
set_option maxRecDepth 40000 in
theorem q_M_holesOn_4 {cal : mCal} {lim : Nat × Nat} {scr : Nat × (Nat → Int)} {ret : Option mVal → mHp → Prop} {K : Nat → mLV → List mVal → mHp → Prop} (hK : mClo m_M_holesOn cal lim scr ret K) (x1 : Int) (x2 : Int) (x3 : Int) (M : mMem) (h :
  ((36 ≤ x3 →
    ret (some (vi x2)) (S0, M)) ∧ (¬ (36 ≤ x3) →
    mIn (w32 (x1 + x3)) 510 ((((M 54 (w32 (x1 + x3))) ≠ 4 →
      K 4 [(0, vr 53), (1, vi x1), (2, vi (w32 (x2 + 0))), (3, vi (w32 (x3 + 1)))] [] (S0, M)) ∧ (¬ ((M 54 (w32 (x1 + x3))) ≠ 4) →
      K 4 [(0, vr 53), (1, vi x1), (2, vi (w32 (x2 + 1))), (3, vi (w32 (x3 + 1)))] [] (S0, M))))))) :
  K 4 [(0, vr 53), (1, vi x1), (2, vi x2), (3, vi x3)] [] (S0, M) := by
  exact mQ hK [27, 28, 36] 4 1 4 b_M_holesOn_4 rfl _ _ _ h
set_option maxRecDepth 40000 in
theorem q_M_rule_0 {cal : mCal} {lim : Nat × Nat} {scr : Nat × (Nat → Int)} {ret : Option mVal → mHp → Prop} {K : Nat → mLV → List mVal → mHp → Prop} (hK : mClo m_M_rule cal lim scr ret K) (x1 : Int) (M : mMem) (h :
  K 4 [(0, vr 53), (1, vi x1), (2, vi 0), (3, vi 0)] [] (S0, M)) :
  K 0 [(0, vr 53), (1, vi x1)] [] (S0, M) := by
  exact mQ hK [27, 28, 36, 76, 84, 86, 92, 100, 106, 112] 11 0 0 b_M_rule_0 rfl _ _ _ h
set_option maxRecDepth 40000 in
theorem q_M_rule_4 {cal : mCal} {lim : Nat × Nat} {scr : Nat × (Nat → Int)} {ret : Option mVal → mHp → Prop} {K : Nat → mLV → List mVal → mHp → Prop} (hK : mClo m_M_rule cal lim scr ret K) (x1 : Int) (x2 : Int) (x3 : Int) (M : mMem) (h :
  ((36 ≤ x3 →
    (((x1 = ((0 : Nat) : Int) →
      ret (some (vi (M 54 39))) (S0, M)) ∧ 
    (x1 = ((1 : Nat) : Int) →
      ret (some (vi x2)) (S0, M)) ∧ 
    (x1 = ((2 : Nat) : Int) →
      (∃ v2 m1, cal 136 [vr 53, vi 0] (S0, M) (some (vi v2), (S0, m1)) ∧
      ret (some (vi v2)) (S0, m1))) ∧ 
    (x1 = ((3 : Nat) : Int) →
      ret (some (vi (M 54 60))) (S0, M)) ∧ 
    (x1 = ((4 : Nat) : Int) →
      (∃ v4 m3, cal 135 [vr 53, vi 0] (S0, M) (some (vi v4), (S0, m3)) ∧
      ret (some (vi v4)) (S0, m3))) ∧ 
    (x1 = ((5 : Nat) : Int) →
      (∃ v6 m5, cal 134 [vr 53, vi 0] (S0, M) (some (vi v6), (S0, m5)) ∧
      ret (some (vi v6)) (S0, m5))) ∧ True) ∧ ((x1 < 0 ∨ ((6 : Nat) : Int) ≤ x1) →
      ret (some (vi (-1))) (S0, M)))) ∧ (¬ (36 ≤ x3) →
    mIn x3 510 ((∃ v8 m7, cal 130 [vi (M 54 x3)] (S0, M) (some (vi v8), (S0, m7)) ∧
    ((v8 = 0 →
      K 4 [(0, vr 53), (1, vi x1), (2, vi (w32 (x2 + 0))), (3, vi (w32 (x3 + 1)))] [] (S0, m7)) ∧ (¬ (v8 = 0) →
      K 4 [(0, vr 53), (1, vi x1), (2, vi (w32 (x2 + 1))), (3, vi (w32 (x3 + 1)))] [] (S0, m7)))))))) :
  K 4 [(0, vr 53), (1, vi x1), (2, vi x2), (3, vi x3)] [] (S0, M) := by
  exact mQ hK [27, 28, 36, 76, 84, 86, 92, 100, 106, 112] 11 1 4 b_M_rule_4 rfl _ _ _ h
set_option maxRecDepth 40000 in
theorem q_M_cell_0 {cal : mCal} {lim : Nat × Nat} {scr : Nat × (Nat → Int)} {ret : Option mVal → mHp → Prop} {K : Nat → mLV → List mVal → mHp → Prop} (hK : mClo m_M_cell cal lim scr ret K) (x1 : Int) (x2 : Int) (M : mMem) (h :
  (∃ v2 m1, cal 129 [vi x1, vi x2] (S0, M) (some (vi v2), (S0, m1)) ∧
  ((v2 = 0 →
    ret (some (vi (-1))) (S0, m1)) ∧ (¬ (v2 = 0) →
    mIn (w32 ((w32 (6 * x1)) + x2)) 510 (ret (some (vi (m1 54 (w32 ((w32 (6 * x1)) + x2))))) (S0, m1)))))) :
  K 0 [(0, vr 53), (1, vi x1), (2, vi x2)] [] (S0, M) := by
  exact mQ hK [22, 23] 3 0 0 b_M_cell_0 rfl _ _ _ h
set_option maxRecDepth 40000 in
theorem q_M_thread_0 {cal : mCal} {lim : Nat × Nat} {scr : Nat × (Nat → Int)} {ret : Option mVal → mHp → Prop} {K : Nat → mLV → List mVal → mHp → Prop} (hK : mClo m_M_thread cal lim scr ret K) (x1 : Int) (M : mMem) (h :
  (∃ v2 m1, cal 130 [vi x1] (S0, M) (some (vi v2), (S0, m1)) ∧
  ((v2 = 0 →
    ret (some (vi (-1))) (S0, m1)) ∧ (¬ (v2 = 0) →
    mIn (w32 ((w32 (36 + x1)) - 1)) 510 (ret (some (vi (w32 ((m1 54 (w32 ((w32 (36 + x1)) - 1))) + 20)))) (S0, m1)))))) :
  K 0 [(0, vr 53), (1, vi x1)] [] (S0, M) := by
  exact mQ hK [24, 25] 3 0 0 b_M_thread_0 rfl _ _ _ h
set_option maxRecDepth 40000 in
theorem q_M_law_0 {cal : mCal} {lim : Nat × Nat} {scr : Nat × (Nat → Int)} {ret : Option mVal → mHp → Prop} {K : Nat → mLV → List mVal → mHp → Prop} (hK : mClo m_M_law cal lim scr ret K) (x1 : Int) (x2 : Int) (M : mMem) (h :
  (∃ v2 m1, cal 128 [vr 53, vi x1] (S0, M) (some (vi v2), (S0, m1)) ∧
  ((v2 = 0 →
    ret (some (vi (-1))) (S0, m1)) ∧ (¬ (v2 = 0) →
    (∃ v4 m3, cal 115 [vl x2, vl (0 : Nat), vl 5] (S0, m1) (some (vi v4), (S0, m3)) ∧
    ((v4 ≠ 0 →
      ((4 ≤ x2 →
        ((x2 ≠ 5 →
          (∃ v6 m5, cal 133 [vr 53, vi 0, vi x1, vi 0] (S0, m3) (some (vi v6), (S0, m5)) ∧
          ret (some (vi v6)) (S0, m5))) ∧ (¬ (x2 ≠ 5) →
          (∃ v8 m7, cal 133 [vr 53, vi 0, vi x1, vi 1] (S0, m3) (some (vi v8), (S0, m7)) ∧
          ret (some (vi v8)) (S0, m7))))) ∧ (¬ (4 ≤ x2) →
        mIn (w32 ((w32 (40 + (w32 (5 * x2)))) + x1)) 510 (ret (some (vi (m3 54 (w32 ((w32 (40 + (w32 (5 * x2)))) + x1))))) (S0, m3))))) ∧ (¬ (v4 ≠ 0) →
      ret (some (vi (-1))) (S0, m3)))))))) :
  K 0 [(0, vr 53), (1, vi x1), (2, vi x2)] [] (S0, M) := by
  exact mQ hK [20, 22, 43, 55, 56, 59] 7 0 0 b_M_law_0 rfl _ _ _ h
set_option maxRecDepth 40000 in
theorem q_M_stitch_0 {cal : mCal} {lim : Nat × Nat} {scr : Nat × (Nat → Int)} {ret : Option mVal → mHp → Prop} {K : Nat → mLV → List mVal → mHp → Prop} (hK : mClo m_M_stitch cal lim scr ret K) (x1 : Int) (x2 : Int) (M : mMem) (h :
  (∃ v2 m1, cal 115 [vl x1, vl (0 : Nat), vl (w32 ((M 54 60) - 1))] (S0, M) (some (vi v2), (S0, m1)) ∧
  ((v2 = 0 →
    ret (some (vi (-1))) (S0, m1)) ∧ (¬ (v2 = 0) →
    (∃ v4 m3, cal 115 [vl x2, vl (0 : Nat), vl 2] (S0, m1) (some (vi v4), (S0, m3)) ∧
    ((v4 = 0 →
      ret (some (vi (-1))) (S0, m3)) ∧ (¬ (v4 = 0) →
      mIn (w32 ((w32 (61 + (w32 (3 * x1)))) + x2)) 510 (ret (some (vi (m3 54 (w32 ((w32 (61 + (w32 (3 * x1)))) + x2))))) (S0, m3))))))))) :
  K 0 [(0, vr 53), (1, vi x1), (2, vi x2)] [] (S0, M) := by
  exact mQ hK [47, 48] 3 0 0 b_M_stitch_0 rfl _ _ _ h
set_option maxRecDepth 40000 in
theorem q_M_puts_0 {cal : mCal} {lim : Nat × Nat} {scr : Nat × (Nat → Int)} {ret : Option mVal → mHp → Prop} {K : Nat → mLV → List mVal → mHp → Prop} (hK : mClo m_M_puts cal lim scr ret K) (x1 : Int) (x2 : Int) (x3 : Int) (x4 : Int) (M : mMem) (h :
  ((x1 ≠ 0 →
    mIn x2 510 (mIn x2 510 (ret (some (vi (w32 ((M 54 x2) + x4)))) (S0, mupd M 54 x2 (w32 (x3 - x4)))))) ∧ (¬ (x1 ≠ 0) →
    ret (some (vi (-1))) (S0, M)))) :
  K 0 [(0, vr 53), (1, vi x1), (2, vi x2), (3, vi x3), (4, vi x4)] [] (S0, M) := by
  exact mQ hK [6] 2 0 0 b_M_puts_0 rfl _ _ _ h
set_option maxRecDepth 40000 in
theorem q_M_amend_0 {cal : mCal} {lim : Nat × Nat} {scr : Nat × (Nat → Int)} {ret : Option mVal → mHp → Prop} {K : Nat → mLV → List mVal → mHp → Prop} (hK : mClo m_M_amend cal lim scr ret K) (x1 : Int) (x2 : Int) (x3 : Int) (M : mMem) (h :
  ((x2 ≠ 0 →
    ((x2 ≠ 3 →
      (∃ v2 m1, cal 130 [vi x3] (S0, M) (some (vi v2), (S0, m1)) ∧
      K 37 [(0, vr 53), (1, vi x1), (2, vi x2), (3, vi x3)] [vi v2] (S0, m1))) ∧ (¬ (x2 ≠ 3) →
      (∃ v4 m3, cal 115 [vl x3, vl (1 : Nat), vl 9] (S0, M) (some (vi v4), (S0, m3)) ∧
      K 37 [(0, vr 53), (1, vi x1), (2, vi x2), (3, vi x3)] [vi v4] (S0, m3))))) ∧ (¬ (x2 ≠ 0) →
    (∃ v6 m5, cal 115 [vl x3, vl (0 : Nat), vl 3] (S0, M) (some (vi v6), (S0, m5)) ∧
    K 37 [(0, vr 53), (1, vi x1), (2, vi x2), (3, vi x3)] [vi v6] (S0, m5))))) :
  K 0 [(0, vr 53), (1, vi x1), (2, vi x2), (3, vi x3)] [] (S0, M) := by
  exact mQ hK [16, 33, 69] 4 0 0 b_M_amend_0 rfl _ _ _ h
set_option maxRecDepth 40000 in
theorem q_M_amend_37 {cal : mCal} {lim : Nat × Nat} {scr : Nat × (Nat → Int)} {ret : Option mVal → mHp → Prop} {K : Nat → mLV → List mVal → mHp → Prop} (hK : mClo m_M_amend cal lim scr ret K) (x1 : Int) (x2 : Int) (x3 : Int) (s0 : Int) (M : mMem) (h :
  (∃ v2 m1, cal 128 [vr 53, vi x1] (S0, M) (some (vi v2), (S0, m1)) ∧
  ((v2 = 0 →
    K 70 [(1, vi x1), (2, vi x2), (3, vi x3)] [vi 0, vr 53] (S0, m1)) ∧ (¬ (v2 = 0) →
    (∃ v4 m3, cal 115 [vl x2, vl (0 : Nat), vl 3] (S0, m1) (some (vi v4), (S0, m3)) ∧
    ((v4 = 0 →
      K 70 [(1, vi x1), (2, vi x2), (3, vi x3)] [vi 0, vr 53] (S0, m3)) ∧ (¬ (v4 = 0) →
      ((s0 = 0 →
        K 70 [(1, vi x1), (2, vi x2), (3, vi x3)] [vi 0, vr 53] (S0, m3)) ∧ (¬ (s0 = 0) →
        K 70 [(1, vi x1), (2, vi x2), (3, vi x3)] [vi 1, vr 53] (S0, m3)))))))))) :
  K 37 [(0, vr 53), (1, vi x1), (2, vi x2), (3, vi x3)] [vi s0] (S0, M) := by
  exact mQ hK [16, 33, 69] 4 3 37 b_M_amend_37 rfl _ _ _ h
set_option maxRecDepth 40000 in
theorem q_M_amend_70 {cal : mCal} {lim : Nat × Nat} {scr : Nat × (Nat → Int)} {ret : Option mVal → mHp → Prop} {K : Nat → mLV → List mVal → mHp → Prop} (hK : mClo m_M_amend cal lim scr ret K) (x1 : Int) (x2 : Int) (x3 : Int) (s0 : Int) (M : mMem) (h :
  (∃ v2 m1, cal 142 [vr 53, vi s0, vi (w32 ((w32 (40 + (w32 (5 * x2)))) + x1)), vi x3, vi 0] (S0, M) (some (vi v2), (S0, m1)) ∧
  ret (some (vi v2)) (S0, m1))) :
  K 70 [(1, vi x1), (2, vi x2), (3, vi x3)] [vi s0, vr 53] (S0, M) := by
  exact mQ hK [16, 33, 69] 4 5 70 b_M_amend_70 rfl _ _ _ h
set_option maxRecDepth 40000 in
theorem q_M_spool_0 {cal : mCal} {lim : Nat × Nat} {scr : Nat × (Nat → Int)} {ret : Option mVal → mHp → Prop} {K : Nat → mLV → List mVal → mHp → Prop} (hK : mClo m_M_spool cal lim scr ret K) (x1 : Int) (x2 : Int) (M : mMem) (h :
  (∃ v2 m1, cal 130 [vi x1] (S0, M) (some (vi v2), (S0, m1)) ∧
  ((v2 = 0 →
    K 25 [(1, vi x1), (2, vi x2)] [vi 0, vr 53] (S0, m1)) ∧ (¬ (v2 = 0) →
    (∃ v4 m3, cal 115 [vl x2, vl (0 : Nat), vl 99] (S0, m1) (some (vi v4), (S0, m3)) ∧
    ((v4 = 0 →
      K 25 [(1, vi x1), (2, vi x2)] [vi 0, vr 53] (S0, m3)) ∧ (¬ (v4 = 0) →
      K 25 [(1, vi x1), (2, vi x2)] [vi 1, vr 53] (S0, m3)))))))) :
  K 0 [(0, vr 53), (1, vi x1), (2, vi x2)] [] (S0, M) := by
  exact mQ hK [24] 2 0 0 b_M_spool_0 rfl _ _ _ h
set_option maxRecDepth 40000 in
theorem q_M_spool_25 {cal : mCal} {lim : Nat × Nat} {scr : Nat × (Nat → Int)} {ret : Option mVal → mHp → Prop} {K : Nat → mLV → List mVal → mHp → Prop} (hK : mClo m_M_spool cal lim scr ret K) (x1 : Int) (x2 : Int) (s0 : Int) (M : mMem) (h :
  (∃ v2 m1, cal 142 [vr 53, vi s0, vi (w32 ((w32 (36 + x1)) - 1)), vi x2, vi 20] (S0, M) (some (vi v2), (S0, m1)) ∧
  ret (some (vi v2)) (S0, m1))) :
  K 25 [(1, vi x1), (2, vi x2)] [vi s0, vr 53] (S0, M) := by
  exact mQ hK [24] 2 2 25 b_M_spool_25 rfl _ _ _ h
set_option maxRecDepth 40000 in
theorem q_M_plan_0 {cal : mCal} {lim : Nat × Nat} {scr : Nat × (Nat → Int)} {ret : Option mVal → mHp → Prop} {K : Nat → mLV → List mVal → mHp → Prop} (hK : mClo m_M_plan cal lim scr ret K) (x1 : Int) (x2 : Int) (x3 : Int) (M : mMem) (h :
  (∃ v2 m1, cal 129 [vi x1, vi x2] (S0, M) (some (vi v2), (S0, m1)) ∧
  ((v2 = 0 →
    ret (some (vi (-1))) (S0, m1)) ∧ (¬ (v2 = 0) →
    (∃ v4 m3, cal 130 [vi x3] (S0, m1) (some (vi v4), (S0, m3)) ∧
    ((v4 ≠ 0 →
      (((m3 54 60) ≠ 8 →
        mIn (w32 (61 + (w32 (3 * (m3 54 60))))) 510 (mIn (w32 ((w32 (61 + (w32 (3 * (m3 54 60))))) + 1)) 510 (mIn (w32 ((w32 (61 + (w32 (3 * (m3 54 60))))) + 2)) 510 (ret (some (vi ((mupd (mupd (mupd (mupd m3 54 (w32 (61 + (w32 (3 * (m3 54 60))))) x1) 54 (w32 ((w32 (61 + (w32 (3 * (m3 54 60))))) + 1)) x2) 54 (w32 ((w32 (61 + (w32 (3 * (m3 54 60))))) + 2)) x3) 54 60 (w32 (((mupd (mupd (mupd m3 54 (w32 (61 + (w32 (3 * (m3 54 60))))) x1) 54 (w32 ((w32 (61 + (w32 (3 * (m3 54 60))))) + 1)) x2) 54 (w32 ((w32 (61 + (w32 (3 * (m3 54 60))))) + 2)) x3) 54 60) + 1))) 54 60))) (S0, mupd (mupd (mupd (mupd m3 54 (w32 (61 + (w32 (3 * (m3 54 60))))) x1) 54 (w32 ((w32 (61 + (w32 (3 * (m3 54 60))))) + 1)) x2) 54 (w32 ((w32 (61 + (w32 (3 * (m3 54 60))))) + 2)) x3) 54 60 (w32 (((mupd (mupd (mupd m3 54 (w32 (61 + (w32 (3 * (m3 54 60))))) x1) 54 (w32 ((w32 (61 + (w32 (3 * (m3 54 60))))) + 1)) x2) 54 (w32 ((w32 (61 + (w32 (3 * (m3 54 60))))) + 2)) x3) 54 60) + 1))))))) ∧ (¬ ((m3 54 60) ≠ 8) →
        ret (some (vi (-3))) (S0, m3)))) ∧ (¬ (v4 ≠ 0) →
      ret (some (vi (-1))) (S0, m3)))))))) :
  K 0 [(0, vr 53), (1, vi x1), (2, vi x2), (3, vi x3)] [] (S0, M) := by
  exact mQ hK [15, 17, 32] 4 0 0 b_M_plan_0 rfl _ _ _ h
set_option maxRecDepth 40000 in
theorem q_M_cut_0 {cal : mCal} {lim : Nat × Nat} {scr : Nat × (Nat → Int)} {ret : Option mVal → mHp → Prop} {K : Nat → mLV → List mVal → mHp → Prop} (hK : mClo m_M_cut cal lim scr ret K) (x1 : Int) (M : mMem) (h :
  (∃ v2 m1, cal 115 [vl x1, vl (0 : Nat), vl (M 54 60)] (S0, M) (some (vi v2), (S0, m1)) ∧
  (∃ v4 m3, cal 142 [vr 53, vi v2, vi 60, vi x1, vi 0] (S0, m1) (some (vi v4), (S0, m3)) ∧
  ret (some (vi v4)) (S0, m3)))) :
  K 0 [(0, vr 53), (1, vi x1)] [] (S0, M) := by
  exact mQ hK [] 1 0 0 b_M_cut_0 rfl _ _ _ h
set_option maxRecDepth 40000 in
theorem q_M_enact_0 {cal : mCal} {lim : Nat × Nat} {scr : Nat × (Nat → Int)} {ret : Option mVal → mHp → Prop} {K : Nat → mLV → List mVal → mHp → Prop} (hK : mClo m_M_enact cal lim scr ret K) (x1 : Int) (x2 : Int) (x3 : Int) (x4 : Int) (M : mMem) (h :
  (∃ v2 m1, cal 115 [vl x1, vl (0 : Nat), vl 3] (S0, M) (some (vi v2), (S0, m1)) ∧
  ((v2 = 0 →
    ret (some (vi (-1))) (S0, m1)) ∧ (¬ (v2 = 0) →
    (∃ v4 m3, cal 130 [vi x2] (S0, m1) (some (vi v4), (S0, m3)) ∧
    ((v4 = 0 →
      ret (some (vi (-1))) (S0, m3)) ∧ (¬ (v4 = 0) →
      (∃ v6 m5, cal 130 [vi x3] (S0, m3) (some (vi v6), (S0, m5)) ∧
      ((v6 = 0 →
        ret (some (vi (-1))) (S0, m5)) ∧ (¬ (v6 = 0) →
        (∃ v8 m7, cal 115 [vl x4, vl (1 : Nat), vl 9] (S0, m5) (some (vi v8), (S0, m7)) ∧
        ((v8 ≠ 0 →
          (((m7 54 39) ≠ 5 →
            mIn (w32 (40 + (m7 54 39))) 510 (mIn (w32 (45 + (m7 54 39))) 510 (mIn (w32 (50 + (m7 54 39))) 510 (mIn (w32 (55 + (m7 54 39))) 510 (ret (some (vi ((mupd (mupd (mupd (mupd (mupd m7 54 (w32 (40 + (m7 54 39))) x1) 54 (w32 (45 + (m7 54 39))) x2) 54 (w32 (50 + (m7 54 39))) x3) 54 (w32 (55 + (m7 54 39))) x4) 54 39 (w32 (((mupd (mupd (mupd (mupd m7 54 (w32 (40 + (m7 54 39))) x1) 54 (w32 (45 + (m7 54 39))) x2) 54 (w32 (50 + (m7 54 39))) x3) 54 (w32 (55 + (m7 54 39))) x4) 54 39) + 1))) 54 39))) (S0, mupd (mupd (mupd (mupd (mupd m7 54 (w32 (40 + (m7 54 39))) x1) 54 (w32 (45 + (m7 54 39))) x2) 54 (w32 (50 + (m7 54 39))) x3) 54 (w32 (55 + (m7 54 39))) x4) 54 39 (w32 (((mupd (mupd (mupd (mupd m7 54 (w32 (40 + (m7 54 39))) x1) 54 (w32 (45 + (m7 54 39))) x2) 54 (w32 (50 + (m7 54 39))) x3) 54 (w32 (55 + (m7 54 39))) x4) 54 39) + 1)))))))) ∧ (¬ ((m7 54 39) ≠ 5) →
            ret (some (vi (-3))) (S0, m7)))) ∧ (¬ (v8 ≠ 0) →
          ret (some (vi (-1))) (S0, m7)))))))))))))) :
  K 0 [(0, vr 53), (1, vi x1), (2, vi x2), (3, vi x3), (4, vi x4)] [] (S0, M) := by
  exact mQ hK [39, 41, 59] 4 0 0 b_M_enact_0 rfl _ _ _ h
set_option maxRecDepth 40000 in
theorem q_M_stitchesOn_0 {cal : mCal} {lim : Nat × Nat} {scr : Nat × (Nat → Int)} {ret : Option mVal → mHp → Prop} {K : Nat → mLV → List mVal → mHp → Prop} (hK : mClo m_M_stitchesOn cal lim scr ret K) (x1 : Int) (x2 : Int) (x3 : Int) (M : mMem) (h :
  mIn (w32 (x1 + x2)) 510 ((((M 54 (w32 (x1 + x2))) ≠ 0 →
    K 35 [(0, vr 53), (1, vi x1), (2, vi x2), (3, vi x3)] [vi 0] (S0, M)) ∧ (¬ ((M 54 (w32 (x1 + x2))) ≠ 0) →
    mIn (w32 ((w32 ((w32 (x1 + 36)) + x3)) - 1)) 510 ((((w32 ((M 54 (w32 ((w32 ((w32 (x1 + 36)) + x3)) - 1))) + 20)) ≤ 0 →
      K 35 [(0, vr 53), (1, vi x1), (2, vi x2), (3, vi x3)] [vi 0] (S0, M)) ∧ (¬ ((w32 ((M 54 (w32 ((w32 ((w32 (x1 + 36)) + x3)) - 1))) + 20)) ≤ 0) →
      K 35 [(0, vr 53), (1, vi x1), (2, vi x2), (3, vi x3)] [vi 1] (S0, M)))))))) :
  K 0 [(0, vr 53), (1, vi x1), (2, vi x2), (3, vi x3)] [] (S0, M) := by
  exact mQ hK [34, 68] 3 0 0 b_M_stitchesOn_0 rfl _ _ _ h
set_option maxRecDepth 40000 in
theorem q_M_stitchesOn_35 {cal : mCal} {lim : Nat × Nat} {scr : Nat × (Nat → Int)} {ret : Option mVal → mHp → Prop} {K : Nat → mLV → List mVal → mHp → Prop} (hK : mClo m_M_stitchesOn cal lim scr ret K) (x1 : Int) (x2 : Int) (x3 : Int) (s0 : Int) (M : mMem) (h :
  ((s0 = 0 →
    mBo s0 (ret (some (vi s0)) (S0, M))) ∧ (¬ (s0 = 0) →
    mIn (w32 (x1 + x2)) 510 (mIn (w32 ((w32 ((w32 (x1 + 36)) + x3)) - 1)) 510 (mIn (w32 ((w32 ((w32 (x1 + 36)) + x3)) - 1)) 510 (mBo s0 (ret (some (vi s0)) (S0, mupd (mupd M 54 (w32 (x1 + x2)) x3) 54 (w32 ((w32 ((w32 (x1 + 36)) + x3)) - 1)) (w32 (((mupd M 54 (w32 (x1 + x2)) x3) 54 (w32 ((w32 ((w32 (x1 + 36)) + x3)) - 1))) - 1)))))))))) :
  K 35 [(0, vr 53), (1, vi x1), (2, vi x2), (3, vi x3)] [vi s0] (S0, M) := by
  exact mQ hK [34, 68] 3 2 35 b_M_stitchesOn_35 rfl _ _ _ h
set_option maxRecDepth 40000 in
theorem q_M_works_0 {cal : mCal} {lim : Nat × Nat} {scr : Nat × (Nat → Int)} {ret : Option mVal → mHp → Prop} {K : Nat → mLV → List mVal → mHp → Prop} (hK : mClo m_M_works cal lim scr ret K) (x1 : Int) (x2 : Int) (x3 : Int) (M : mMem) (h :
  (∃ v2 m1, cal 129 [vi x1, vi x2] (S0, M) (some (vi v2), (S0, m1)) ∧
  ((v2 = 0 →
    ret (some (vi (-1))) (S0, m1)) ∧ (¬ (v2 = 0) →
    (∃ v4 m3, cal 130 [vi x3] (S0, m1) (some (vi v4), (S0, m3)) ∧
    ((v4 ≠ 0 →
      (∃ v6 m5, cal 148 [vr 53, vi 0, vi (w32 ((w32 (6 * x1)) + x2)), vi x3] (S0, m3) (some (vi v6), (S0, m5)) ∧
      ((v6 = 0 →
        ret (some (vi (-2))) (S0, m5)) ∧ (¬ (v6 = 0) →
        (∃ v8 m7, cal 134 [vr 53, vi 0] (S0, m5) (some (vi v8), (S0, m7)) ∧
        ret (some (vi v8)) (S0, m7)))))) ∧ (¬ (v4 ≠ 0) →
      ret (some (vi (-1))) (S0, m3)))))))) :
  K 0 [(0, vr 53), (1, vi x1), (2, vi x2), (3, vi x3)] [] (S0, M) := by
  exact mQ hK [15, 17, 40, 42] 5 0 0 b_M_works_0 rfl _ _ _ h
set_option maxRecDepth 40000 in
theorem q_M_work_0 {cal : mCal} {lim : Nat × Nat} {scr : Nat × (Nat → Int)} {ret : Option mVal → mHp → Prop} {K : Nat → mLV → List mVal → mHp → Prop} (hK : mClo m_M_work cal lim scr ret K) (x1 : Int) (x2 : Int) (x3 : Int) (M : mMem) (h :
  (∃ v2 m1, cal 149 [vr 53, vi x1, vi x2, vi x3] (S0, M) (some (vi v2), (S0, m1)) ∧
  ret (some (vi v2)) (S0, m1))) :
  K 0 [(0, vr 53), (1, vi x1), (2, vi x2), (3, vi x3)] [] (S0, M) := by
  exact mQ hK [] 1 0 0 b_M_work_0 rfl _ _ _ h
set_option maxRecDepth 40000 in
theorem q_M_unpick_0 {cal : mCal} {lim : Nat × Nat} {scr : Nat × (Nat → Int)} {ret : Option mVal → mHp → Prop} {K : Nat → mLV → List mVal → mHp → Prop} (hK : mClo m_M_unpick cal lim scr ret K) (x1 : Int) (x2 : Int) (M : mMem) (h :
  (∃ v2 m1, cal 129 [vi x1, vi x2] (S0, M) (some (vi v2), (S0, m1)) ∧
  ((v2 ≠ 0 →
    mIn (w32 ((w32 (6 * x1)) + x2)) 510 ((∃ v4 m3, cal 130 [vi (m1 54 (w32 ((w32 (6 * x1)) + x2)))] (S0, m1) (some (vi v4), (S0, m3)) ∧
    ((v4 = 0 →
      ret (some (vi (-2))) (S0, m3)) ∧ (¬ (v4 = 0) →
      (∃ v6 m5, cal 142 [vr 53, vi 1, vi (w32 ((w32 (6 * x1)) + x2)), vi 0, vi 0] (S0, m3) (some (vi v6), (S0, m5)) ∧
      ret (some (vi v6)) (S0, m5))))))) ∧ (¬ (v2 ≠ 0) →
    ret (some (vi (-1))) (S0, m1))))) :
  K 0 [(0, vr 53), (1, vi x1), (2, vi x2)] [] (S0, M) := by
  exact mQ hK [10, 43, 45] 4 0 0 b_M_unpick_0 rfl _ _ _ h
set_option maxRecDepth 40000 in
theorem q_M_moth_0 {cal : mCal} {lim : Nat × Nat} {scr : Nat × (Nat → Int)} {ret : Option mVal → mHp → Prop} {K : Nat → mLV → List mVal → mHp → Prop} (hK : mClo m_M_moth cal lim scr ret K) (x1 : Int) (x2 : Int) (M : mMem) (h :
  (∃ v2 m1, cal 129 [vi x1, vi x2] (S0, M) (some (vi v2), (S0, m1)) ∧
  ((v2 ≠ 0 →
    mIn (w32 ((w32 (6 * x1)) + x2)) 510 ((((m1 54 (w32 ((w32 (6 * x1)) + x2))) = 4 →
      ret (some (vi (-2))) (S0, m1)) ∧ (¬ ((m1 54 (w32 ((w32 (6 * x1)) + x2))) = 4) →
      (∃ v4 m3, cal 142 [vr 53, vi 1, vi (w32 ((w32 (6 * x1)) + x2)), vi 4, vi 0] (S0, m1) (some (vi v4), (S0, m3)) ∧
      ret (some (vi v4)) (S0, m3)))))) ∧ (¬ (v2 ≠ 0) →
    ret (some (vi (-1))) (S0, m1))))) :
  K 0 [(0, vr 53), (1, vi x1), (2, vi x2)] [] (S0, M) := by
  exact mQ hK [10, 41, 43] 4 0 0 b_M_moth_0 rfl _ _ _ h
set_option maxRecDepth 40000 in
theorem q_M_mend_0 {cal : mCal} {lim : Nat × Nat} {scr : Nat × (Nat → Int)} {ret : Option mVal → mHp → Prop} {K : Nat → mLV → List mVal → mHp → Prop} (hK : mClo m_M_mend cal lim scr ret K) (x1 : Int) (x2 : Int) (M : mMem) (h :
  (∃ v2 m1, cal 129 [vi x1, vi x2] (S0, M) (some (vi v2), (S0, m1)) ∧
  ((v2 ≠ 0 →
    mIn (w32 ((w32 (6 * x1)) + x2)) 510 ((((m1 54 (w32 ((w32 (6 * x1)) + x2))) = 4 →
      mIn (w32 ((w32 (6 * x1)) + x2)) 510 ((∃ v4 m3, cal 136 [vr 53, vi 0] (S0, mupd m1 54 (w32 ((w32 (6 * x1)) + x2)) 0) (some (vi v4), (S0, m3)) ∧
      ret (some (vi v4)) (S0, m3)))) ∧ (¬ ((m1 54 (w32 ((w32 (6 * x1)) + x2))) = 4) →
      ret (some (vi (-2))) (S0, m1))))) ∧ (¬ (v2 ≠ 0) →
    ret (some (vi (-1))) (S0, m1))))) :
  K 0 [(0, vr 53), (1, vi x1), (2, vi x2)] [] (S0, M) := by
  exact mQ hK [10, 28] 3 0 0 b_M_mend_0 rfl _ _ _ h
set_option maxRecDepth 40000 in
theorem q_M_copies_0 {cal : mCal} {lim : Nat × Nat} {scr : Nat × (Nat → Int)} {ret : Option mVal → mHp → Prop} {K : Nat → mLV → List mVal → mHp → Prop} (hK : mClo m_M_copies cal lim scr ret K) (x1 : Int) (x2 : Int) (M : mMem) (h :
  K 2 [(0, vr 53), (1, vi x1), (2, vi x2), (3, vi 0)] [] (S0, M)) :
  K 0 [(0, vr 53), (1, vi x1), (2, vi x2)] [] (S0, M) := by
  exact mQ hK [30] 2 0 0 b_M_copies_0 rfl _ _ _ h
set_option maxRecDepth 40000 in
theorem q_M_copies_2 {cal : mCal} {lim : Nat × Nat} {scr : Nat × (Nat → Int)} {ret : Option mVal → mHp → Prop} {K : Nat → mLV → List mVal → mHp → Prop} (hK : mClo m_M_copies cal lim scr ret K) (x1 : Int) (x2 : Int) (x3 : Int) (M : mMem) (h :
  ((85 ≤ x3 →
    ret none (S0, M)) ∧ (¬ (85 ≤ x3) →
    mIn (w32 (x1 + x3)) 510 (mIn (w32 (x2 + x3)) 510 (K 2 [(0, vr 53), (1, vi x1), (2, vi x2), (3, vi (w32 (x3 + 1)))] [] (S0, mupd M 54 (w32 (x2 + x3)) (M 54 (w32 (x1 + x3))))))))) :
  K 2 [(0, vr 53), (1, vi x1), (2, vi x2), (3, vi x3)] [] (S0, M) := by
  exact mQ hK [30] 2 1 2 b_M_copies_2 rfl _ _ _ h
set_option maxRecDepth 40000 in
theorem q_M_planGoes_0 {cal : mCal} {lim : Nat × Nat} {scr : Nat × (Nat → Int)} {ret : Option mVal → mHp → Prop} {K : Nat → mLV → List mVal → mHp → Prop} (hK : mClo m_M_planGoes cal lim scr ret K) (x1 : Int) (M : mMem) (h :
  (∃ m1, cal 154 [vr 53, vi 0, vi 340] (S0, M) (none, (S0, m1)) ∧
  K 21 [(0, vr 53), (1, vi x1), (2, vi 0)] [] (S0, mupd (mupd m1 53 15 0) 53 16 (-4)))) :
  K 0 [(0, vr 53), (1, vi x1)] [] (S0, M) := by
  exact mQ hK [93, 107, 111, 114, 120] 6 0 0 b_M_planGoes_0 rfl _ _ _ h
set_option maxRecDepth 40000 in
theorem q_M_planGoes_21 {cal : mCal} {lim : Nat × Nat} {scr : Nat × (Nat → Int)} {ret : Option mVal → mHp → Prop} {K : Nat → mLV → List mVal → mHp → Prop} (hK : mClo m_M_planGoes cal lim scr ret K) (x1 : Int) (x2 : Int) (M : mMem) (h :
  (((M 54 60) ≤ x2 →
    ret none (S0, M)) ∧ (¬ ((M 54 60) ≤ x2) →
    ((x2 = x1 →
      K 21 [(0, vr 53), (1, vi x1), (2, vi (w32 (x2 + 1)))] [] (S0, M)) ∧ (¬ (x2 = x1) →
      mIn (w32 (61 + (w32 (3 * x2)))) 510 (mIn (w32 ((w32 (61 + (w32 (3 * x2)))) + 1)) 510 (mIn (w32 ((w32 (61 + (w32 (3 * x2)))) + 2)) 510 ((∃ v2 m1, cal 148 [vr 53, vi 340, vi (w32 ((w32 (6 * (M 54 (w32 (61 + (w32 (3 * x2))))))) + (M 54 (w32 ((w32 (61 + (w32 (3 * x2)))) + 1))))), vi (M 54 (w32 ((w32 (61 + (w32 (3 * x2)))) + 2)))] (S0, M) (some (vi v2), (S0, m1)) ∧
      ((v2 = 0 →
        (((m1 53 16) ≠ (-4) →
          K 21 [(0, vr 53), (1, vi x1), (2, vi (w32 (x2 + 1)))] [] (S0, mupd m1 53 16 (m1 53 16))) ∧ (¬ ((m1 53 16) ≠ (-4)) →
          K 21 [(0, vr 53), (1, vi x1), (2, vi (w32 (x2 + 1)))] [] (S0, mupd m1 53 16 x2)))) ∧ (¬ (v2 = 0) →
        K 21 [(0, vr 53), (1, vi x1), (2, vi (w32 (x2 + 1)))] [] (S0, mupd m1 53 15 (w32 ((m1 53 15) + 1)))))))))))))) :
  K 21 [(0, vr 53), (1, vi x1), (2, vi x2)] [] (S0, M) := by
  exact mQ hK [93, 107, 111, 114, 120] 6 1 21 b_M_planGoes_21 rfl _ _ _ h
set_option maxRecDepth 40000 in
theorem q_M_runs_0 {cal : mCal} {lim : Nat × Nat} {scr : Nat × (Nat → Int)} {ret : Option mVal → mHp → Prop} {K : Nat → mLV → List mVal → mHp → Prop} (hK : mClo m_M_runs cal lim scr ret K) (x1 : Int) (M : mMem) (h :
  (∃ v2 m1, cal 115 [vl x1, vl (0 : Nat), vl 3] (S0, M) (some (vi v2), (S0, m1)) ∧
  ((v2 ≠ 0 →
    (∃ m3, cal 155 [vr 53, vi (-4)] (S0, m1) (none, (S0, m3)) ∧
    ((x1 ≠ 0 →
      ((x1 ≠ 1 →
        ((x1 ≠ 2 →
          ret (some (vi (m3 53 16))) (S0, m3)) ∧ (¬ (x1 ≠ 2) →
          ret (some (vi (m3 53 15))) (S0, m3)))) ∧ (¬ (x1 ≠ 1) →
        (∃ v5 m4, cal 135 [vr 53, vi 340] (S0, m3) (some (vi v5), (S0, m4)) ∧
        ret (some (vi v5)) (S0, m4))))) ∧ (¬ (x1 ≠ 0) →
      (∃ v7 m6, cal 134 [vr 53, vi 340] (S0, m3) (some (vi v7), (S0, m6)) ∧
      ret (some (vi v7)) (S0, m6)))))) ∧ (¬ (v2 ≠ 0) →
    ret (some (vi (-1))) (S0, m1))))) :
  K 0 [(0, vr 53), (1, vi x1)] [] (S0, M) := by
  exact mQ hK [14, 34, 49, 61, 65] 6 0 0 b_M_runs_0 rfl _ _ _ h
set_option maxRecDepth 40000 in
theorem q_M_ahead_0 {cal : mCal} {lim : Nat × Nat} {scr : Nat × (Nat → Int)} {ret : Option mVal → mHp → Prop} {K : Nat → mLV → List mVal → mHp → Prop} (hK : mClo m_M_ahead cal lim scr ret K) (x1 : Int) (x2 : Int) (M : mMem) (h :
  (∃ v2 m1, cal 129 [vi x1, vi x2] (S0, M) (some (vi v2), (S0, m1)) ∧
  ((v2 ≠ 0 →
    (∃ m3, cal 155 [vr 53, vi (-4)] (S0, m1) (none, (S0, m3)) ∧
    mIn (w32 ((w32 (340 + (w32 (6 * x1)))) + x2)) 510 (ret (some (vi (m3 54 (w32 ((w32 (340 + (w32 (6 * x1)))) + x2))))) (S0, m3)))) ∧ (¬ (v2 ≠ 0) →
    ret (some (vi (-1))) (S0, m1))))) :
  K 0 [(0, vr 53), (1, vi x1), (2, vi x2)] [] (S0, M) := by
  exact mQ hK [10] 2 0 0 b_M_ahead_0 rfl _ _ _ h
set_option maxRecDepth 40000 in
theorem q_M_isMore_0 {cal : mCal} {lim : Nat × Nat} {scr : Nat × (Nat → Int)} {ret : Option mVal → mHp → Prop} {K : Nat → mLV → List mVal → mHp → Prop} (hK : mClo m_M_isMore cal lim scr ret K) (x1 : Int) (M : mMem) (h :
  ((x1 ≤ (M 53 17) →
    K 13 [(0, vr 53), (1, vi x1)] [vi 0] (S0, M)) ∧ (¬ (x1 ≤ (M 53 17)) →
    K 13 [(0, vr 53), (1, vi x1)] [vi 1] (S0, M)))) :
  K 0 [(0, vr 53), (1, vi x1)] [] (S0, M) := by
  exact mQ hK [12, 23, 27] 4 0 0 b_M_isMore_0 rfl _ _ _ h
set_option maxRecDepth 40000 in
theorem q_M_isMore_13 {cal : mCal} {lim : Nat × Nat} {scr : Nat × (Nat → Int)} {ret : Option mVal → mHp → Prop} {K : Nat → mLV → List mVal → mHp → Prop} (hK : mClo m_M_isMore cal lim scr ret K) (x1 : Int) (s0 : Int) (M : mMem) (h :
  ((s0 = 0 →
    mBo s0 (ret (some (vi s0)) (S0, mupd M 53 17 (M 53 17)))) ∧ (¬ (s0 = 0) →
    mBo s0 (ret (some (vi s0)) (S0, mupd M 53 17 x1))))) :
  K 13 [(0, vr 53), (1, vi x1)] [vi s0] (S0, M) := by
  exact mQ hK [12, 23, 27] 4 2 13 b_M_isMore_13 rfl _ _ _ h
set_option maxRecDepth 40000 in
theorem q_M_stitchesBy_0 {cal : mCal} {lim : Nat × Nat} {scr : Nat × (Nat → Int)} {ret : Option mVal → mHp → Prop} {K : Nat → mLV → List mVal → mHp → Prop} (hK : mClo m_M_stitchesBy cal lim scr ret K) (x1 : Int) (x2 : Int) (M : mMem) (h :
  (∃ v2 m1, cal 129 [vi (jdiv x2 100), vi (jrem (jdiv x2 10) 10)] (S0, M) (some (vi v2), (S0, m1)) ∧
  ((v2 = 0 →
    ret (some (vi 0)) (S0, m1)) ∧ (¬ (v2 = 0) →
    (∃ v4 m3, cal 130 [vi (jrem x2 10)] (S0, m1) (some (vi v4), (S0, m3)) ∧
    ((v4 = 0 →
      ret (some (vi 0)) (S0, m3)) ∧ (¬ (v4 = 0) →
      (∃ v6 m5, cal 148 [vr 53, vi x1, vi (w32 ((w32 (6 * (jdiv x2 100))) + (jrem (jdiv x2 10) 10))), vi (jrem x2 10)] (S0, m3) (some (vi v6), (S0, m5)) ∧
      ((v6 = 0 →
        ret (some (vi 0)) (S0, m5)) ∧ (¬ (v6 = 0) →
        ret (some (vi 1)) (S0, m5))))))))))) :
  K 0 [(0, vr 53), (1, vi x1), (2, vi x2)] [] (S0, M) := by
  exact mQ hK [58, 59] 3 0 0 b_M_stitchesBy_0 rfl _ _ _ h
set_option maxRecDepth 40000 in
theorem q_M_best_0 {cal : mCal} {lim : Nat × Nat} {scr : Nat × (Nat → Int)} {ret : Option mVal → mHp → Prop} {K : Nat → mLV → List mVal → mHp → Prop} (hK : mClo m_M_best cal lim scr ret K) (x1 : Int) (M : mMem) (h :
  (∃ v2 m1, cal 115 [vl x1, vl (0 : Nat), vl (1 : Nat)] (S0, M) (some (vi v2), (S0, m1)) ∧
  ((v2 ≠ 0 →
    (∃ v4 m3, cal 134 [vr 53, vi 0] (S0, m1) (some (vi v4), (S0, m3)) ∧
    K 26 [(0, vr 53), (1, vi x1), (2, vi (-4)), (3, vi 0)] [] (S0, mupd m3 53 17 v4))) ∧ (¬ (v2 ≠ 0) →
    ret (some (vi (-1))) (S0, m1))))) :
  K 0 [(0, vr 53), (1, vi x1)] [] (S0, M) := by
  exact mQ hK [12, 70, 71, 72, 78, 88, 92, 96] 9 0 0 b_M_best_0 rfl _ _ _ h
set_option maxRecDepth 40000 in
theorem q_M_best_26 {cal : mCal} {lim : Nat × Nat} {scr : Nat × (Nat → Int)} {ret : Option mVal → mHp → Prop} {K : Nat → mLV → List mVal → mHp → Prop} (hK : mClo m_M_best cal lim scr ret K) (x1 : Int) (x2 : Int) (x3 : Int) (M : mMem) (h :
  ((600 ≤ x3 →
    ((x2 = (-4) →
      ret (some (vi x2)) (S0, M)) ∧ (¬ (x2 = (-4)) →
      ((x1 ≠ 0 →
        ret (some (vi (M 53 17))) (S0, M)) ∧ (¬ (x1 ≠ 0) →
        ret (some (vi x2)) (S0, M)))))) ∧ (¬ (600 ≤ x3) →
    (∃ m1, cal 154 [vr 53, vi 0, vi 340] (S0, M) (none, (S0, m1)) ∧
    (∃ v3 m2, cal 159 [vr 53, vi 340, vi x3] (S0, m1) (some (vi v3), (S0, m2)) ∧
    ((v3 = 0 →
      K 26 [(0, vr 53), (1, vi x1), (2, vi x2), (3, vi (w32 (x3 + 1)))] [] (S0, m2)) ∧ (¬ (v3 = 0) →
      (∃ v5 m4, cal 134 [vr 53, vi 340] (S0, m2) (some (vi v5), (S0, m4)) ∧
      (∃ v7 m6, cal 158 [vr 53, vi v5] (S0, m4) (some (vi v7), (S0, m6)) ∧
      ((v7 = 0 →
        K 26 [(0, vr 53), (1, vi x1), (2, vi x2), (3, vi (w32 (x3 + 1)))] [] (S0, m6)) ∧ (¬ (v7 = 0) →
        K 26 [(0, vr 53), (1, vi x1), (2, vi x3), (3, vi (w32 (x3 + 1)))] [] (S0, m6)))))))))))) :
  K 26 [(0, vr 53), (1, vi x1), (2, vi x2), (3, vi x3)] [] (S0, M) := by
  exact mQ hK [12, 70, 71, 72, 78, 88, 92, 96] 9 2 26 b_M_best_26 rfl _ _ _ h
set_option maxRecDepth 40000 in
theorem q_M_isHeldBy_0 {cal : mCal} {lim : Nat × Nat} {scr : Nat × (Nat → Int)} {ret : Option mVal → mHp → Prop} {K : Nat → mLV → List mVal → mHp → Prop} (hK : mClo m_M_isHeldBy cal lim scr ret K) (x1 : Int) (x2 : Int) (M : mMem) (h :
  K 2 [(0, vr 53), (1, vi x1), (2, vi x2), (3, vi 0)] [] (S0, M)) :
  K 0 [(0, vr 53), (1, vi x1), (2, vi x2)] [] (S0, M) := by
  exact mQ hK [52, 129, 171, 177, 183] 6 0 0 b_M_isHeldBy_0 rfl _ _ _ h
set_option maxRecDepth 40000 in
theorem q_M_isHeldBy_2 {cal : mCal} {lim : Nat × Nat} {scr : Nat × (Nat → Int)} {ret : Option mVal → mHp → Prop} {K : Nat → mLV → List mVal → mHp → Prop} (hK : mClo m_M_isHeldBy cal lim scr ret K) (x1 : Int) (x2 : Int) (x3 : Int) (M : mMem) (h :
  ((600 ≤ x3 →
    ret (some (vi 0)) (S0, M)) ∧ (¬ (600 ≤ x3) →
    (∃ m1, cal 154 [vr 53, vi 0, vi 425] (S0, M) (none, (S0, m1)) ∧
    (∃ v3 m2, cal 159 [vr 53, vi 425, vi x3] (S0, m1) (some (vi v3), (S0, m2)) ∧
    ((v3 = 0 →
      K 2 [(0, vr 53), (1, vi x1), (2, vi x2), (3, vi (w32 (x3 + 1)))] [] (S0, m2)) ∧ (¬ (v3 = 0) →
      ((x2 ≠ 1 →
        K 55 [(0, vr 53), (1, vi x1), (2, vi x2), (3, vi x3), (4, vi 0)] [] (S0, mupd m2 53 18 x3)) ∧ (¬ (x2 ≠ 1) →
        (∃ v5 m4, cal 133 [vr 53, vi 425, vi x1, vi 0] (S0, mupd m2 53 18 x3) (some (vi v5), (S0, m4)) ∧
        ((v5 ≤ 0 →
          K 55 [(0, vr 53), (1, vi x1), (2, vi x2), (3, vi x3), (4, vi 0)] [] (S0, m4)) ∧ (¬ (v5 ≤ 0) →
          ret (some (vi 1)) (S0, m4))))))))))))) :
  K 2 [(0, vr 53), (1, vi x1), (2, vi x2), (3, vi x3)] [] (S0, M) := by
  exact mQ hK [52, 129, 171, 177, 183] 6 1 2 b_M_isHeldBy_2 rfl _ _ _ h
set_option maxRecDepth 40000 in
theorem q_M_isHeldBy_55 {cal : mCal} {lim : Nat × Nat} {scr : Nat × (Nat → Int)} {ret : Option mVal → mHp → Prop} {K : Nat → mLV → List mVal → mHp → Prop} (hK : mClo m_M_isHeldBy cal lim scr ret K) (x1 : Int) (x2 : Int) (x3 : Int) (x4 : Int) (M : mMem) (h :
  ((600 ≤ x4 →
    K 2 [(0, vr 53), (1, vi x1), (2, vi x2), (3, vi (w32 (x3 + 1)))] [] (S0, M)) ∧ (¬ (600 ≤ x4) →
    ((x2 ≠ 2 →
      K 2 [(0, vr 53), (1, vi x1), (2, vi x2), (3, vi (w32 (x3 + 1)))] [] (S0, M)) ∧ (¬ (x2 ≠ 2) →
      (∃ v2 m1, cal 159 [vr 53, vi 425, vi x4] (S0, M) (some (vi v2), (S0, m1)) ∧
      ((v2 = 0 →
        K 55 [(0, vr 53), (1, vi x1), (2, vi x2), (3, vi x3), (4, vi (w32 (x4 + 1)))] [] (S0, m1)) ∧ (¬ (v2 = 0) →
        (∃ v4 m3, cal 133 [vr 53, vi 425, vi x1, vi 0] (S0, mupd m1 53 19 x4) (some (vi v4), (S0, m3)) ∧
        ((v4 ≤ 0 →
          K 130 [(0, vr 53), (1, vi x1), (2, vi x2), (3, vi x3), (4, vi x4), (7, vi (w32 ((w32 (6 * (jdiv x4 100))) + (jrem (jdiv x4 10) 10))))] [vi 0] (S0, m3)) ∧ (¬ (v4 ≤ 0) →
          K 130 [(0, vr 53), (1, vi x1), (2, vi x2), (3, vi x3), (4, vi x4), (7, vi (w32 ((w32 (6 * (jdiv x4 100))) + (jrem (jdiv x4 10) 10))))] [vi 1] (S0, m3)))))))))))) :
  K 55 [(0, vr 53), (1, vi x1), (2, vi x2), (3, vi x3), (4, vi x4)] [] (S0, M) := by
  exact mQ hK [52, 129, 171, 177, 183] 6 3 55 b_M_isHeldBy_55 rfl _ _ _ h
set_option maxRecDepth 40000 in
theorem q_M_isHeldBy_130 {cal : mCal} {lim : Nat × Nat} {scr : Nat × (Nat → Int)} {ret : Option mVal → mHp → Prop} {K : Nat → mLV → List mVal → mHp → Prop} (hK : mClo m_M_isHeldBy cal lim scr ret K) (x1 : Int) (x2 : Int) (x3 : Int) (x4 : Int) (x7 : Int) (s0 : Int) (M : mMem) (h :
  mIn (w32 (425 + x7)) 510 (mIn (w32 ((w32 (461 + (jrem x4 10))) - 1)) 510 (mIn (w32 ((w32 (461 + (jrem x4 10))) - 1)) 510 (((s0 = 0 →
    K 55 [(0, vr 53), (1, vi x1), (2, vi x2), (3, vi x3), (4, vi (w32 (x4 + 1)))] [] (S0, mupd (mupd M 54 (w32 (425 + x7)) 0) 54 (w32 ((w32 (461 + (jrem x4 10))) - 1)) (w32 (((mupd M 54 (w32 (425 + x7)) 0) 54 (w32 ((w32 (461 + (jrem x4 10))) - 1))) + 1)))) ∧ (¬ (s0 = 0) →
    ret (some (vi 1)) (S0, mupd (mupd M 54 (w32 (425 + x7)) 0) 54 (w32 ((w32 (461 + (jrem x4 10))) - 1)) (w32 (((mupd M 54 (w32 (425 + x7)) 0) 54 (w32 ((w32 (461 + (jrem x4 10))) - 1))) + 1))))))))) :
  K 130 [(0, vr 53), (1, vi x1), (2, vi x2), (3, vi x3), (4, vi x4), (7, vi x7)] [vi s0] (S0, M) := by
  exact mQ hK [52, 129, 171, 177, 183] 6 5 130 b_M_isHeldBy_130 rfl _ _ _ h
set_option maxRecDepth 40000 in
theorem q_M_need_0 {cal : mCal} {lim : Nat × Nat} {scr : Nat × (Nat → Int)} {ret : Option mVal → mHp → Prop} {K : Nat → mLV → List mVal → mHp → Prop} (hK : mClo m_M_need cal lim scr ret K) (x1 : Int) (x2 : Int) (M : mMem) (h :
  (∃ v2 m1, cal 128 [vr 53, vi x1] (S0, M) (some (vi v2), (S0, m1)) ∧
  ((v2 = 0 →
    ret (some (vi (-1))) (S0, m1)) ∧ (¬ (v2 = 0) →
    ((x2 = 0 →
      K 28 [(0, vr 53), (1, vi x1), (2, vi x2)] [] (S0, m1)) ∧ (¬ (x2 = 0) →
      (∃ v4 m3, cal 115 [vl x2, vl 10, vl 11] (S0, m1) (some (vi v4), (S0, m3)) ∧
      ((v4 ≠ 0 →
        K 28 [(0, vr 53), (1, vi x1), (2, vi x2)] [] (S0, m3)) ∧ (¬ (v4 ≠ 0) →
        ret (some (vi (-1))) (S0, m3)))))))))) :
  K 0 [(0, vr 53), (1, vi x1), (2, vi x2)] [] (S0, M) := by
  exact mQ hK [26, 42, 55, 68, 81, 85, 98, 111, 115] 10 0 0 b_M_need_0 rfl _ _ _ h
set_option maxRecDepth 40000 in
theorem q_M_need_28 {cal : mCal} {lim : Nat × Nat} {scr : Nat × (Nat → Int)} {ret : Option mVal → mHp → Prop} {K : Nat → mLV → List mVal → mHp → Prop} (hK : mClo m_M_need cal lim scr ret K) (x1 : Int) (x2 : Int) (M : mMem) (h :
  (∃ v2 m1, cal 133 [vr 53, vi 0, vi x1, vi 0] (S0, M) (some (vi v2), (S0, m1)) ∧
  ((v2 ≤ 0 →
    (∃ v4 m3, cal 161 [vr 53, vi x1, vi 1] (S0, m1) (some (vi v4), (S0, m3)) ∧
    ((v4 = 0 →
      (∃ v6 m5, cal 161 [vr 53, vi x1, vi 2] (S0, m3) (some (vi v6), (S0, m5)) ∧
      ((v6 = 0 →
        K 70 [(0, vr 53), (2, vi x2)] [vi (-4)] (S0, m5)) ∧ (¬ (v6 = 0) →
        K 70 [(0, vr 53), (2, vi x2)] [vi 2] (S0, m5))))) ∧ (¬ (v4 = 0) →
      K 70 [(0, vr 53), (2, vi x2)] [vi 1] (S0, m3))))) ∧ (¬ (v2 ≤ 0) →
    K 70 [(0, vr 53), (2, vi x2)] [vi 0] (S0, m1))))) :
  K 28 [(0, vr 53), (1, vi x1), (2, vi x2)] [] (S0, M) := by
  exact mQ hK [26, 42, 55, 68, 81, 85, 98, 111, 115] 10 2 28 b_M_need_28 rfl _ _ _ h
set_option maxRecDepth 40000 in
theorem q_M_need_70 {cal : mCal} {lim : Nat × Nat} {scr : Nat × (Nat → Int)} {ret : Option mVal → mHp → Prop} {K : Nat → mLV → List mVal → mHp → Prop} (hK : mClo m_M_need cal lim scr ret K) (x2 : Int) (s0 : Int) (M : mMem) (h :
  ((x2 = 0 →
    ret (some (vi s0)) (S0, M)) ∧ (¬ (x2 = 0) →
    ((s0 ≠ (-4) →
      (((w32 (x2 - 10)) < s0 →
        ((x2 ≠ 10 →
          ret (some (vi (M 53 19))) (S0, M)) ∧ (¬ (x2 ≠ 10) →
          ret (some (vi (M 53 18))) (S0, M)))) ∧ (¬ ((w32 (x2 - 10)) < s0) →
        ret (some (vi (-4))) (S0, M)))) ∧ (¬ (s0 ≠ (-4)) →
      ret (some (vi s0)) (S0, M)))))) :
  K 70 [(0, vr 53), (2, vi x2)] [vi s0] (S0, M) := by
  exact mQ hK [26, 42, 55, 68, 81, 85, 98, 111, 115] 10 6 70 b_M_need_70 rfl _ _ _ h
set_option maxRecDepth 40000 in
theorem q_M_loose_0 {cal : mCal} {lim : Nat × Nat} {scr : Nat × (Nat → Int)} {ret : Option mVal → mHp → Prop} {K : Nat → mLV → List mVal → mHp → Prop} (hK : mClo m_M_loose cal lim scr ret K) (x1 : Int) (x2 : Int) (M : mMem) (h :
  (∃ v2 m1, cal 128 [vr 53, vi x1] (S0, M) (some (vi v2), (S0, m1)) ∧
  ((v2 = 0 →
    ret (some (vi (-1))) (S0, m1)) ∧ (¬ (v2 = 0) →
    (∃ v4 m3, cal 115 [vl x2, vl (0 : Nat), vl (1 : Nat)] (S0, m1) (some (vi v4), (S0, m3)) ∧
    ((v4 ≠ 0 →
      (∃ v6 m5, cal 133 [vr 53, vi 0, vi x1, vi 0] (S0, m3) (some (vi v6), (S0, m5)) ∧
      K 35 [(0, vr 53), (1, vi x1), (2, vi x2), (3, vi v6), (4, vi (-4)), (5, vi 0)] [] (S0, m5))) ∧ (¬ (v4 ≠ 0) →
      ret (some (vi (-1))) (S0, m3)))))))) :
  K 0 [(0, vr 53), (1, vi x1), (2, vi x2)] [] (S0, M) := by
  exact mQ hK [18, 20, 108, 123, 124, 125, 131, 142, 147, 148] 11 0 0 b_M_loose_0 rfl _ _ _ h
set_option maxRecDepth 40000 in
theorem q_M_loose_35 {cal : mCal} {lim : Nat × Nat} {scr : Nat × (Nat → Int)} {ret : Option mVal → mHp → Prop} {K : Nat → mLV → List mVal → mHp → Prop} (hK : mClo m_M_loose cal lim scr ret K) (x1 : Int) (x2 : Int) (x3 : Int) (x4 : Int) (x5 : Int) (M : mMem) (h :
  ((36 ≤ x5 →
    ((x4 = (-4) →
      ret (some (vi x4)) (S0, M)) ∧ (¬ (x4 = (-4)) →
      ((x2 ≠ 0 →
        ret (some (vi x3)) (S0, M)) ∧ (¬ (x2 ≠ 0) →
        ret (some (vi x4)) (S0, M)))))) ∧ (¬ (36 ≤ x5) →
    mIn x5 510 ((∃ v2 m1, cal 130 [vi (M 54 x5)] (S0, M) (some (vi v2), (S0, m1)) ∧
    ((v2 = 0 →
      K 35 [(0, vr 53), (1, vi x1), (2, vi x2), (3, vi x3), (4, vi x4), (5, vi (w32 (x5 + 1)))] [] (S0, m1)) ∧ (¬ (v2 = 0) →
      mIn x5 510 ((∃ v4 m3, cal 133 [vr 53, vi 0, vi x1, vi 0] (S0, mupd m1 54 x5 0) (some (vi v4), (S0, m3)) ∧
      mIn x5 510 (((x3 ≤ v4 →
        K 110 [(0, vr 53), (1, vi x1), (2, vi x2), (3, vi x3), (5, vi x5), (7, vi v4)] [vi x4] (S0, mupd m3 54 x5 (M 54 x5))) ∧ (¬ (x3 ≤ v4) →
        K 110 [(0, vr 53), (1, vi x1), (2, vi x2), (3, vi x3), (5, vi x5), (7, vi v4)] [vi (w32 ((w32 (10 * (jdiv x5 6))) + (jrem x5 6)))] (S0, mupd m3 54 x5 (M 54 x5)))))))))))))) :
  K 35 [(0, vr 53), (1, vi x1), (2, vi x2), (3, vi x3), (4, vi x4), (5, vi x5)] [] (S0, M) := by
  exact mQ hK [18, 20, 108, 123, 124, 125, 131, 142, 147, 148] 11 3 35 b_M_loose_35 rfl _ _ _ h
set_option maxRecDepth 40000 in
theorem q_M_loose_110 {cal : mCal} {lim : Nat × Nat} {scr : Nat × (Nat → Int)} {ret : Option mVal → mHp → Prop} {K : Nat → mLV → List mVal → mHp → Prop} (hK : mClo m_M_loose cal lim scr ret K) (x1 : Int) (x2 : Int) (x3 : Int) (x5 : Int) (x7 : Int) (s0 : Int) (M : mMem) (h :
  ((x3 ≤ x7 →
    K 35 [(0, vr 53), (1, vi x1), (2, vi x2), (3, vi x3), (4, vi s0), (5, vi (w32 (x5 + 1)))] [] (S0, M)) ∧ (¬ (x3 ≤ x7) →
    K 35 [(0, vr 53), (1, vi x1), (2, vi x2), (3, vi x7), (4, vi s0), (5, vi (w32 (x5 + 1)))] [] (S0, M)))) :
  K 110 [(0, vr 53), (1, vi x1), (2, vi x2), (3, vi x3), (5, vi x5), (7, vi x7)] [vi s0] (S0, M) := by
  exact mQ hK [18, 20, 108, 123, 124, 125, 131, 142, 147, 148] 11 5 110 b_M_loose_110 rfl _ _ _ h
set_option maxRecDepth 40000 in
theorem q_M_dye_0 {cal : mCal} {lim : Nat × Nat} {scr : Nat × (Nat → Int)} {ret : Option mVal → mHp → Prop} {K : Nat → mLV → List mVal → mHp → Prop} (hK : mClo m_M_dye cal lim scr ret K) (x1 : Int) (M : mMem) (h :
  (∃ v2 m1, cal 115 [vl x1, vl (0 : Nat), vl (1 : Nat)] (S0, M) (some (vi v2), (S0, m1)) ∧
  ((v2 ≠ 0 →
    (∃ v4 m3, cal 134 [vr 53, vi 0] (S0, m1) (some (vi v4), (S0, m3)) ∧
    K 26 [(0, vr 53), (1, vi x1), (2, vi (-4)), (3, vi 1)] [] (S0, mupd m3 53 17 v4))) ∧ (¬ (v2 ≠ 0) →
    ret (some (vi (-1))) (S0, m1))))) :
  K 0 [(0, vr 53), (1, vi x1)] [] (S0, M) := by
  exact mQ hK [12, 86, 102, 109, 116, 140, 141, 148, 154, 164, 168, 172] 13 0 0 b_M_dye_0 rfl _ _ _ h
set_option maxRecDepth 40000 in
theorem q_M_dye_26 {cal : mCal} {lim : Nat × Nat} {scr : Nat × (Nat → Int)} {ret : Option mVal → mHp → Prop} {K : Nat → mLV → List mVal → mHp → Prop} (hK : mClo m_M_dye cal lim scr ret K) (x1 : Int) (x2 : Int) (x3 : Int) (M : mMem) (h :
  ((3 < x3 →
    ((x2 = (-4) →
      ret (some (vi x2)) (S0, M)) ∧ (¬ (x2 = (-4)) →
      ((x1 ≠ 0 →
        ret (some (vi (M 53 17))) (S0, M)) ∧ (¬ (x1 ≠ 0) →
        ret (some (vi x2)) (S0, M)))))) ∧ (¬ (3 < x3) →
    K 36 [(0, vr 53), (1, vi x1), (2, vi x2), (3, vi x3), (4, vi (w32 (x3 + 1)))] [] (S0, M)))) :
  K 26 [(0, vr 53), (1, vi x1), (2, vi x2), (3, vi x3)] [] (S0, M) := by
  exact mQ hK [12, 86, 102, 109, 116, 140, 141, 148, 154, 164, 168, 172] 13 2 26 b_M_dye_26 rfl _ _ _ h
set_option maxRecDepth 40000 in
theorem q_M_dye_36 {cal : mCal} {lim : Nat × Nat} {scr : Nat × (Nat → Int)} {ret : Option mVal → mHp → Prop} {K : Nat → mLV → List mVal → mHp → Prop} (hK : mClo m_M_dye cal lim scr ret K) (x1 : Int) (x2 : Int) (x3 : Int) (x4 : Int) (M : mMem) (h :
  ((3 < x4 →
    K 26 [(0, vr 53), (1, vi x1), (2, vi x2), (3, vi (w32 (x3 + 1)))] [] (S0, M)) ∧ (¬ (3 < x4) →
    (∃ m1, cal 154 [vr 53, vi 0, vi 340] (S0, M) (none, (S0, m1)) ∧
    K 53 [(0, vr 53), (1, vi x1), (2, vi x2), (3, vi x3), (4, vi x4), (5, vi 0)] [] (S0, m1))))) :
  K 36 [(0, vr 53), (1, vi x1), (2, vi x2), (3, vi x3), (4, vi x4)] [] (S0, M) := by
  exact mQ hK [12, 86, 102, 109, 116, 140, 141, 148, 154, 164, 168, 172] 13 3 36 b_M_dye_36 rfl _ _ _ h
set_option maxRecDepth 40000 in
theorem q_M_dye_53 {cal : mCal} {lim : Nat × Nat} {scr : Nat × (Nat → Int)} {ret : Option mVal → mHp → Prop} {K : Nat → mLV → List mVal → mHp → Prop} (hK : mClo m_M_dye cal lim scr ret K) (x1 : Int) (x2 : Int) (x3 : Int) (x4 : Int) (x5 : Int) (M : mMem) (h :
  ((36 ≤ x5 →
    (∃ v2 m1, cal 134 [vr 53, vi 340] (S0, M) (some (vi v2), (S0, m1)) ∧
    (∃ v4 m3, cal 158 [vr 53, vi v2] (S0, m1) (some (vi v4), (S0, m3)) ∧
    ((v4 = 0 →
      K 36 [(0, vr 53), (1, vi x1), (2, vi x2), (3, vi x3), (4, vi (w32 (x4 + 1)))] [] (S0, m3)) ∧ (¬ (v4 = 0) →
      K 36 [(0, vr 53), (1, vi x1), (2, vi (w32 ((w32 (10 * x3)) + x4))), (3, vi x3), (4, vi (w32 (x4 + 1)))] [] (S0, m3)))))) ∧ (¬ (36 ≤ x5) →
    mIn x5 510 ((((M 54 x5) ≠ x3 →
      mIn x5 510 ((((M 54 x5) ≠ x4 →
        mIn x5 510 (mIn (w32 (340 + x5)) 510 (K 53 [(0, vr 53), (1, vi x1), (2, vi x2), (3, vi x3), (4, vi x4), (5, vi (w32 (x5 + 1)))] [] (S0, mupd M 54 (w32 (340 + x5)) (M 54 x5))))) ∧ (¬ ((M 54 x5) ≠ x4) →
        mIn (w32 (340 + x5)) 510 (K 53 [(0, vr 53), (1, vi x1), (2, vi x2), (3, vi x3), (4, vi x4), (5, vi (w32 (x5 + 1)))] [] (S0, mupd M 54 (w32 (340 + x5)) x3)))))) ∧ (¬ ((M 54 x5) ≠ x3) →
      mIn (w32 (340 + x5)) 510 (K 53 [(0, vr 53), (1, vi x1), (2, vi x2), (3, vi x3), (4, vi x4), (5, vi (w32 (x5 + 1)))] [] (S0, mupd M 54 (w32 (340 + x5)) x4)))))))) :
  K 53 [(0, vr 53), (1, vi x1), (2, vi x2), (3, vi x3), (4, vi x4), (5, vi x5)] [] (S0, M) := by
  exact mQ hK [12, 86, 102, 109, 116, 140, 141, 148, 154, 164, 168, 172] 13 4 53 b_M_dye_53 rfl _ _ _ h
set_option maxRecDepth 40000 in
theorem q_M_turn_0 {cal : mCal} {lim : Nat × Nat} {scr : Nat × (Nat → Int)} {ret : Option mVal → mHp → Prop} {K : Nat → mLV → List mVal → mHp → Prop} (hK : mClo m_M_turn cal lim scr ret K) (x1 : Int) (M : mMem) (h :
  (∃ v2 m1, cal 115 [vl x1, vl (0 : Nat), vl (1 : Nat)] (S0, M) (some (vi v2), (S0, m1)) ∧
  ((v2 ≠ 0 →
    (∃ v4 m3, cal 134 [vr 53, vi 0] (S0, m1) (some (vi v4), (S0, m3)) ∧
    K 26 [(0, vr 53), (1, vi x1), (2, vi (-4)), (3, vi 0)] [] (S0, mupd m3 53 17 v4))) ∧ (¬ (v2 ≠ 0) →
    ret (some (vi (-1))) (S0, m1))))) :
  K 0 [(0, vr 53), (1, vi x1)] [] (S0, M) := by
  exact mQ hK [12, 86, 104, 105, 112, 122, 126, 130] 9 0 0 b_M_turn_0 rfl _ _ _ h
set_option maxRecDepth 40000 in
theorem q_M_turn_26 {cal : mCal} {lim : Nat × Nat} {scr : Nat × (Nat → Int)} {ret : Option mVal → mHp → Prop} {K : Nat → mLV → List mVal → mHp → Prop} (hK : mClo m_M_turn cal lim scr ret K) (x1 : Int) (x2 : Int) (x3 : Int) (M : mMem) (h :
  ((6 ≤ x3 →
    ((x2 = (-4) →
      ret (some (vi x2)) (S0, M)) ∧ (¬ (x2 = (-4)) →
      ((x1 ≠ 0 →
        ret (some (vi (M 53 17))) (S0, M)) ∧ (¬ (x1 ≠ 0) →
        ret (some (vi x2)) (S0, M)))))) ∧ (¬ (6 ≤ x3) →
    (∃ m1, cal 154 [vr 53, vi 0, vi 340] (S0, M) (none, (S0, m1)) ∧
    K 43 [(0, vr 53), (1, vi x1), (2, vi x2), (3, vi x3), (4, vi 0)] [] (S0, m1))))) :
  K 26 [(0, vr 53), (1, vi x1), (2, vi x2), (3, vi x3)] [] (S0, M) := by
  exact mQ hK [12, 86, 104, 105, 112, 122, 126, 130] 9 2 26 b_M_turn_26 rfl _ _ _ h
set_option maxRecDepth 40000 in
theorem q_M_turn_43 {cal : mCal} {lim : Nat × Nat} {scr : Nat × (Nat → Int)} {ret : Option mVal → mHp → Prop} {K : Nat → mLV → List mVal → mHp → Prop} (hK : mClo m_M_turn cal lim scr ret K) (x1 : Int) (x2 : Int) (x3 : Int) (x4 : Int) (M : mMem) (h :
  ((6 ≤ x4 →
    (∃ v2 m1, cal 134 [vr 53, vi 340] (S0, M) (some (vi v2), (S0, m1)) ∧
    (∃ v4 m3, cal 158 [vr 53, vi v2] (S0, m1) (some (vi v4), (S0, m3)) ∧
    ((v4 = 0 →
      K 26 [(0, vr 53), (1, vi x1), (2, vi x2), (3, vi (w32 (x3 + 1)))] [] (S0, m3)) ∧ (¬ (v4 = 0) →
      K 26 [(0, vr 53), (1, vi x1), (2, vi x3), (3, vi (w32 (x3 + 1)))] [] (S0, m3)))))) ∧ (¬ (6 ≤ x4) →
    mIn (w32 ((w32 (6 * (w32 (5 - x4)))) + x3)) 510 (mIn (w32 ((w32 (340 + (w32 (6 * x4)))) + x3)) 510 (K 43 [(0, vr 53), (1, vi x1), (2, vi x2), (3, vi x3), (4, vi (w32 (x4 + 1)))] [] (S0, mupd M 54 (w32 ((w32 (340 + (w32 (6 * x4)))) + x3)) (M 54 (w32 ((w32 (6 * (w32 (5 - x4)))) + x3))))))))) :
  K 43 [(0, vr 53), (1, vi x1), (2, vi x2), (3, vi x3), (4, vi x4)] [] (S0, M) := by
  exact mQ hK [12, 86, 104, 105, 112, 122, 126, 130] 9 3 43 b_M_turn_43 rfl _ _ _ h
set_option maxRecDepth 40000 in
theorem q_M_leave_0 {cal : mCal} {lim : Nat × Nat} {scr : Nat × (Nat → Int)} {ret : Option mVal → mHp → Prop} {K : Nat → mLV → List mVal → mHp → Prop} (hK : mClo m_M_leave cal lim scr ret K) (x1 : Int) (M : mMem) (h :
  (∃ v2 m1, cal 115 [vl x1, vl (0 : Nat), vl (1 : Nat)] (S0, M) (some (vi v2), (S0, m1)) ∧
  ((v2 ≠ 0 →
    (∃ m3, cal 155 [vr 53, vi (-4)] (S0, m1) (none, (S0, m3)) ∧
    (∃ v5 m4, cal 134 [vr 53, vi 340] (S0, m3) (some (vi v5), (S0, m4)) ∧
    K 34 [(0, vr 53), (1, vi x1), (2, vi (-4)), (3, vi 0)] [] (S0, mupd m4 53 17 v5)))) ∧ (¬ (v2 ≠ 0) →
    ret (some (vi (-1))) (S0, m1))))) :
  K 0 [(0, vr 53), (1, vi x1)] [] (S0, M) := by
  exact mQ hK [12, 68, 69, 76, 86, 90, 94] 8 0 0 b_M_leave_0 rfl _ _ _ h
set_option maxRecDepth 40000 in
theorem q_M_leave_34 {cal : mCal} {lim : Nat × Nat} {scr : Nat × (Nat → Int)} {ret : Option mVal → mHp → Prop} {K : Nat → mLV → List mVal → mHp → Prop} (hK : mClo m_M_leave cal lim scr ret K) (x1 : Int) (x2 : Int) (x3 : Int) (M : mMem) (h :
  (((M 54 60) ≤ x3 →
    ((x2 = (-4) →
      ret (some (vi x2)) (S0, M)) ∧ (¬ (x2 = (-4)) →
      ((x1 ≠ 0 →
        ret (some (vi (M 53 17))) (S0, M)) ∧ (¬ (x1 ≠ 0) →
        ret (some (vi x2)) (S0, M)))))) ∧ (¬ ((M 54 60) ≤ x3) →
    (∃ m1, cal 155 [vr 53, vi x3] (S0, M) (none, (S0, m1)) ∧
    (∃ v3 m2, cal 134 [vr 53, vi 340] (S0, m1) (some (vi v3), (S0, m2)) ∧
    (∃ v5 m4, cal 158 [vr 53, vi v3] (S0, m2) (some (vi v5), (S0, m4)) ∧
    ((v5 = 0 →
      K 34 [(0, vr 53), (1, vi x1), (2, vi x2), (3, vi (w32 (x3 + 1)))] [] (S0, m4)) ∧ (¬ (v5 = 0) →
      K 34 [(0, vr 53), (1, vi x1), (2, vi x3), (3, vi (w32 (x3 + 1)))] [] (S0, m4))))))))) :
  K 34 [(0, vr 53), (1, vi x1), (2, vi x2), (3, vi x3)] [] (S0, M) := by
  exact mQ hK [12, 68, 69, 76, 86, 90, 94] 8 2 34 b_M_leave_34 rfl _ _ _ h
set_option maxRecDepth 40000 in
theorem q_M_lowest_0 {cal : mCal} {lim : Nat × Nat} {scr : Nat × (Nat → Int)} {ret : Option mVal → mHp → Prop} {K : Nat → mLV → List mVal → mHp → Prop} (hK : mClo m_M_lowest cal lim scr ret K) (y0 : Int) (y2 : Int) (x4 : Int) (M : mMem) (h :
  K 6 [(0, vl y0), (2, vl y2), (4, vi x4), (5, vl y0), (7, vl y2)] [] (S0, M)) :
  K 0 [(0, vl y0), (2, vl y2), (4, vi x4)] [] (S0, M) := by
  exact mQ hK [31, 40, 41] 4 0 0 b_M_lowest_0 rfl _ _ _ h
set_option maxRecDepth 40000 in
theorem q_M_lowest_6 {cal : mCal} {lim : Nat × Nat} {scr : Nat × (Nat → Int)} {ret : Option mVal → mHp → Prop} {K : Nat → mLV → List mVal → mHp → Prop} (hK : mClo m_M_lowest cal lim scr ret K) (y0 : Int) (y2 : Int) (x4 : Int) (y5 : Int) (y7 : Int) (M : mMem) (h :
  (((jlcmp y7 (0 : Nat)) = 0 →
    ((x4 ≠ 0 →
      (y5 ≠ 0 ∧ ret (some (vl (jldiv y2 y5))) (S0, M))) ∧ (¬ (x4 ≠ 0) →
      (y5 ≠ 0 ∧ ret (some (vl (jldiv y0 y5))) (S0, M))))) ∧ (¬ ((jlcmp y7 (0 : Nat)) = 0) →
    (y7 ≠ 0 ∧ K 6 [(0, vl y0), (2, vl y2), (4, vi x4), (5, vl y7), (7, vl (jlrem y5 y7))] [] (S0, M))))) :
  K 6 [(0, vl y0), (2, vl y2), (4, vi x4), (5, vl y5), (7, vl y7)] [] (S0, M) := by
  exact mQ hK [31, 40, 41] 4 1 6 b_M_lowest_6 rfl _ _ _ h
set_option maxRecDepth 40000 in
theorem q_M_laysRunning_0 {cal : mCal} {lim : Nat × Nat} {scr : Nat × (Nat → Int)} {ret : Option mVal → mHp → Prop} {K : Nat → mLV → List mVal → mHp → Prop} (hK : mClo m_M_laysRunning cal lim scr ret K)  (M : mMem) (h :
  K 4 [(0, vr 53), (1, vi 0), (2, vi 0)] [] (S0, M)) :
  K 0 [(0, vr 53)] [] (S0, M) := by
  exact mQ hK [42, 48] 3 0 0 b_M_laysRunning_0 rfl _ _ _ h
set_option maxRecDepth 40000 in
theorem q_M_laysRunning_4 {cal : mCal} {lim : Nat × Nat} {scr : Nat × (Nat → Int)} {ret : Option mVal → mHp → Prop} {K : Nat → mLV → List mVal → mHp → Prop} (hK : mClo m_M_laysRunning cal lim scr ret K) (x1 : Int) (x2 : Int) (M : mMem) (h :
  ((30 ≤ x2 →
    ret (some (vi x1)) (S0, M)) ∧ (¬ (30 ≤ x2) →
    mIn x2 510 ((((M 54 x2) ≠ 1 →
      K 4 [(0, vr 53), (1, vi x1), (2, vi (w32 (x2 + 1)))] [] (S0, M)) ∧ (¬ ((M 54 x2) ≠ 1) →
      mIn (w32 (x2 + 6)) 510 ((((M 54 (w32 (x2 + 6))) ≠ 0 →
        K 4 [(0, vr 53), (1, vi x1), (2, vi (w32 (x2 + 1)))] [] (S0, M)) ∧ (¬ ((M 54 (w32 (x2 + 6))) ≠ 0) →
        mIn x1 36 (K 4 [(0, vr 53), (1, vi (w32 (x1 + 1))), (2, vi (w32 (x2 + 1)))] [] (S0, mupd M 59 x1 x2))))))))))) :
  K 4 [(0, vr 53), (1, vi x1), (2, vi x2)] [] (S0, M) := by
  exact mQ hK [42, 48] 3 1 4 b_M_laysRunning_4 rfl _ _ _ h
set_option maxRecDepth 40000 in
theorem q_M_byRuns_0 {cal : mCal} {lim : Nat × Nat} {scr : Nat × (Nat → Int)} {ret : Option mVal → mHp → Prop} {K : Nat → mLV → List mVal → mHp → Prop} (hK : mClo m_M_byRuns cal lim scr ret K) (x1 : Int) (x2 : Int) (x3 : Int) (M : mMem) (h :
  (∃ v2 m1, cal 168 [vr 53] (S0, M) (some (vi v2), (S0, m1)) ∧
  K 15 [(0, vr 53), (1, vi x1), (2, vi x2), (3, vi x3), (4, vi v2), (5, vl (0 : Nat)), (7, vl (1 : Nat)), (9, vi 0)] [] (S0, m1))) :
  K 0 [(0, vr 53), (1, vi x1), (2, vi x2), (3, vi x3)] [] (S0, M) := by
  exact mQ hK [36, 84, 99, 132, 138, 158, 174, 175, 186] 10 0 0 b_M_byRuns_0 rfl _ _ _ h
set_option maxRecDepth 40000 in
theorem q_M_byRuns_15 {cal : mCal} {lim : Nat × Nat} {scr : Nat × (Nat → Int)} {ret : Option mVal → mHp → Prop} {K : Nat → mLV → List mVal → mHp → Prop} (hK : mClo m_M_byRuns cal lim scr ret K) (x1 : Int) (x2 : Int) (x3 : Int) (x4 : Int) (y5 : Int) (y7 : Int) (x9 : Int) (M : mMem) (h :
  ((x4 ≤ x9 →
    K 39 [(0, vr 53), (1, vi x1), (2, vi x2), (3, vi x3), (4, vi x4), (5, vl y5), (7, vl y7), (9, vi 0)] [] (S0, M)) ∧ (¬ (x4 ≤ x9) →
    K 15 [(0, vr 53), (1, vi x1), (2, vi x2), (3, vi x3), (4, vi x4), (5, vl y5), (7, vl (w64 (y7 * 10))), (9, vi (w32 (x9 + 1)))] [] (S0, M)))) :
  K 15 [(0, vr 53), (1, vi x1), (2, vi x2), (3, vi x3), (4, vi x4), (5, vl y5), (7, vl y7), (9, vi x9)] [] (S0, M) := by
  exact mQ hK [36, 84, 99, 132, 138, 158, 174, 175, 186] 10 1 15 b_M_byRuns_15 rfl _ _ _ h
set_option maxRecDepth 40000 in
theorem q_M_byRuns_39 {cal : mCal} {lim : Nat × Nat} {scr : Nat × (Nat → Int)} {ret : Option mVal → mHp → Prop} {K : Nat → mLV → List mVal → mHp → Prop} (hK : mClo m_M_byRuns cal lim scr ret K) (x1 : Int) (x2 : Int) (x3 : Int) (x4 : Int) (y5 : Int) (y7 : Int) (x9 : Int) (M : mMem) (h :
  (((jshl 1 x4) ≤ x9 →
    (∃ v2 m1, cal 167 [vl y5, vl y7, vi x3] (S0, M) (some (vl v2), (S0, m1)) ∧
    ret (some (vl v2)) (S0, m1))) ∧ (¬ ((jshl 1 x4) ≤ x9) →
    (∃ m3, cal 154 [vr 53, vi 0, vi 340] (S0, M) (none, (S0, m3)) ∧
    K 62 [(0, vr 53), (1, vi x1), (2, vi x2), (3, vi x3), (4, vi x4), (5, vl y5), (7, vl y7), (9, vi x9), (10, vl (1 : Nat)), (12, vi 0)] [] (S0, m3))))) :
  K 39 [(0, vr 53), (1, vi x1), (2, vi x2), (3, vi x3), (4, vi x4), (5, vl y5), (7, vl y7), (9, vi x9)] [] (S0, M) := by
  exact mQ hK [36, 84, 99, 132, 138, 158, 174, 175, 186] 10 3 39 b_M_byRuns_39 rfl _ _ _ h
set_option maxRecDepth 40000 in
theorem q_M_byRuns_62 {cal : mCal} {lim : Nat × Nat} {scr : Nat × (Nat → Int)} {ret : Option mVal → mHp → Prop} {K : Nat → mLV → List mVal → mHp → Prop} (hK : mClo m_M_byRuns cal lim scr ret K) (x1 : Int) (x2 : Int) (x3 : Int) (x4 : Int) (y5 : Int) (y7 : Int) (x9 : Int) (y10 : Int) (x12 : Int) (M : mMem) (h :
  ((x4 ≤ x12 →
    ((x2 ≠ (-4) →
      (∃ v2 m1, cal 133 [vr 53, vi 340, vi x2, vi 0] (S0, M) (some (vi v2), (S0, m1)) ∧
      ((v2 ≤ 0 →
        K 39 [(0, vr 53), (1, vi x1), (2, vi x2), (3, vi x3), (4, vi x4), (5, vl (w64 (y5 + (w64 (y10 * 0))))), (7, vl y7), (9, vi (w32 (x9 + 1)))] [] (S0, m1)) ∧ (¬ (v2 ≤ 0) →
        K 39 [(0, vr 53), (1, vi x1), (2, vi x2), (3, vi x3), (4, vi x4), (5, vl (w64 (y5 + (w64 (y10 * 1))))), (7, vl y7), (9, vi (w32 (x9 + 1)))] [] (S0, m1))))) ∧ (¬ (x2 ≠ (-4)) →
      (∃ v4 m3, cal 134 [vr 53, vi 340] (S0, M) (some (vi v4), (S0, m3)) ∧
      K 39 [(0, vr 53), (1, vi x1), (2, vi x2), (3, vi x3), (4, vi x4), (5, vl (w64 (y5 + (w64 (y10 * v4))))), (7, vl y7), (9, vi (w32 (x9 + 1)))] [] (S0, m3))))) ∧ (¬ (x4 ≤ x12) →
    (((jand (jshr x9 x12) 1) ≠ 1 →
      K 85 [(0, vr 53), (1, vi x1), (2, vi x2), (3, vi x3), (4, vi x4), (5, vl y5), (7, vl y7), (9, vi x9), (10, vl y10), (12, vi x12)] [vi 0] (S0, M)) ∧ (¬ ((jand (jshr x9 x12) 1) ≠ 1) →
      K 85 [(0, vr 53), (1, vi x1), (2, vi x2), (3, vi x3), (4, vi x4), (5, vl y5), (7, vl y7), (9, vi x9), (10, vl y10), (12, vi x12)] [vi 1] (S0, M)))))) :
  K 62 [(0, vr 53), (1, vi x1), (2, vi x2), (3, vi x3), (4, vi x4), (5, vl y5), (7, vl y7), (9, vi x9), (10, vl y10), (12, vi x12)] [] (S0, M) := by
  exact mQ hK [36, 84, 99, 132, 138, 158, 174, 175, 186] 10 4 62 b_M_byRuns_62 rfl _ _ _ h
set_option maxRecDepth 40000 in
theorem q_M_byRuns_85 {cal : mCal} {lim : Nat × Nat} {scr : Nat × (Nat → Int)} {ret : Option mVal → mHp → Prop} {K : Nat → mLV → List mVal → mHp → Prop} (hK : mClo m_M_byRuns cal lim scr ret K) (x1 : Int) (x2 : Int) (x3 : Int) (x4 : Int) (y5 : Int) (y7 : Int) (x9 : Int) (y10 : Int) (x12 : Int) (s0 : Int) (M : mMem) (h :
  ((s0 = 0 →
    K 104 [(0, vr 53), (1, vi x1), (2, vi x2), (3, vi x3), (4, vi x4), (5, vl y5), (7, vl y7), (9, vi x9), (12, vi x12), (13, vi s0)] [vl (w32 (10 - x1)), vl y10] (S0, M)) ∧ (¬ (s0 = 0) →
    K 104 [(0, vr 53), (1, vi x1), (2, vi x2), (3, vi x3), (4, vi x4), (5, vl y5), (7, vl y7), (9, vi x9), (12, vi x12), (13, vi s0)] [vl x1, vl y10] (S0, M)))) :
  K 85 [(0, vr 53), (1, vi x1), (2, vi x2), (3, vi x3), (4, vi x4), (5, vl y5), (7, vl y7), (9, vi x9), (10, vl y10), (12, vi x12)] [vi s0] (S0, M) := by
  exact mQ hK [36, 84, 99, 132, 138, 158, 174, 175, 186] 10 6 85 b_M_byRuns_85 rfl _ _ _ h
set_option maxRecDepth 40000 in
theorem q_M_byRuns_104 {cal : mCal} {lim : Nat × Nat} {scr : Nat × (Nat → Int)} {ret : Option mVal → mHp → Prop} {K : Nat → mLV → List mVal → mHp → Prop} (hK : mClo m_M_byRuns cal lim scr ret K) (x1 : Int) (x2 : Int) (x3 : Int) (x4 : Int) (y5 : Int) (y7 : Int) (x9 : Int) (x12 : Int) (x13 : Int) (z0 : Int) (z1 : Int) (M : mMem) (h :
  ((x13 = 0 →
    K 62 [(0, vr 53), (1, vi x1), (2, vi x2), (3, vi x3), (4, vi x4), (5, vl y5), (7, vl y7), (9, vi x9), (10, vl (w64 (z1 * z0))), (12, vi (w32 (x12 + 1)))] [] (S0, M)) ∧ (¬ (x13 = 0) →
    mIn x12 36 (mIn (w32 ((w32 (340 + (M 59 x12))) + 6)) 510 (K 62 [(0, vr 53), (1, vi x1), (2, vi x2), (3, vi x3), (4, vi x4), (5, vl y5), (7, vl y7), (9, vi x9), (10, vl (w64 (z1 * z0))), (12, vi (w32 (x12 + 1)))] [] (S0, mupd M 54 (w32 ((w32 (340 + (M 59 x12))) + 6)) 1)))))) :
  K 104 [(0, vr 53), (1, vi x1), (2, vi x2), (3, vi x3), (4, vi x4), (5, vl y5), (7, vl y7), (9, vi x9), (12, vi x12), (13, vi x13)] [vl z0, vl z1] (S0, M) := by
  exact mQ hK [36, 84, 99, 132, 138, 158, 174, 175, 186] 10 8 104 b_M_byRuns_104 rfl _ _ _ h
set_option maxRecDepth 40000 in
theorem q_M_luck_0 {cal : mCal} {lim : Nat × Nat} {scr : Nat × (Nat → Int)} {ret : Option mVal → mHp → Prop} {K : Nat → mLV → List mVal → mHp → Prop} (hK : mClo m_M_luck cal lim scr ret K) (x1 : Int) (x2 : Int) (x3 : Int) (M : mMem) (h :
  (∃ v2 m1, cal 115 [vl x1, vl (0 : Nat), vl 10] (S0, M) (some (vi v2), (S0, m1)) ∧
  ((v2 = 0 →
    ret (some (vl (-1))) (S0, m1)) ∧ (¬ (v2 = 0) →
    (∃ v4 m3, cal 128 [vr 53, vi x2] (S0, m1) (some (vi v4), (S0, m3)) ∧
    ((v4 = 0 →
      ret (some (vl (-1))) (S0, m3)) ∧ (¬ (v4 = 0) →
      (∃ v6 m5, cal 115 [vl x3, vl (0 : Nat), vl (1 : Nat)] (S0, m3) (some (vi v6), (S0, m5)) ∧
      ((v6 ≠ 0 →
        (∃ v8 m7, cal 168 [vr 53] (S0, m5) (some (vi v8), (S0, m7)) ∧
        ((v8 ≤ 8 →
          (∃ v10 m9, cal 169 [vr 53, vi x1, vi x2, vi x3] (S0, m7) (some (vl v10), (S0, m9)) ∧
          ret (some (vl v10)) (S0, m9))) ∧ (¬ (v8 ≤ 8) →
          ret (some (vl (-2))) (S0, m7))))) ∧ (¬ (v6 ≠ 0) →
        ret (some (vl (-1))) (S0, m5))))))))))) :
  K 0 [(0, vr 53), (1, vi x1), (2, vi x2), (3, vi x3)] [] (S0, M) := by
  exact mQ hK [30, 34, 49, 56] 5 0 0 b_M_luck_0 rfl _ _ _ h
set_option maxRecDepth 40000 in
theorem q_M_mean_0 {cal : mCal} {lim : Nat × Nat} {scr : Nat × (Nat → Int)} {ret : Option mVal → mHp → Prop} {K : Nat → mLV → List mVal → mHp → Prop} (hK : mClo m_M_mean cal lim scr ret K) (x1 : Int) (x2 : Int) (M : mMem) (h :
  (∃ v2 m1, cal 115 [vl x1, vl (0 : Nat), vl 10] (S0, M) (some (vi v2), (S0, m1)) ∧
  ((v2 = 0 →
    ret (some (vl (-1))) (S0, m1)) ∧ (¬ (v2 = 0) →
    (∃ v4 m3, cal 115 [vl x2, vl (0 : Nat), vl (1 : Nat)] (S0, m1) (some (vi v4), (S0, m3)) ∧
    ((v4 ≠ 0 →
      (∃ v6 m5, cal 168 [vr 53] (S0, m3) (some (vi v6), (S0, m5)) ∧
      ((v6 ≤ 8 →
        (∃ v8 m7, cal 169 [vr 53, vi x1, vi (-4), vi x2] (S0, m5) (some (vl v8), (S0, m7)) ∧
        ret (some (vl v8)) (S0, m7))) ∧ (¬ (v6 ≤ 8) →
        ret (some (vl (-2))) (S0, m5))))) ∧ (¬ (v4 ≠ 0) →
      ret (some (vl (-1))) (S0, m3)))))))) :
  K 0 [(0, vr 53), (1, vi x1), (2, vi x2)] [] (S0, M) := by
  exact mQ hK [22, 26, 41, 49] 5 0 0 b_M_mean_0 rfl _ _ _ h
set_option maxRecDepth 40000 in
theorem q_M_see_0 {cal : mCal} {lim : Nat × Nat} {scr : Nat × (Nat → Int)} {ret : Option mVal → mHp → Prop} {K : Nat → mLV → List mVal → mHp → Prop} (hK : mClo m_M_see cal lim scr ret K) (x1 : Int) (x2 : Int) (M : mMem) (h :
  (∃ v2 m1, cal 128 [vr 53, vi x1] (S0, M) (some (vi v2), (S0, m1)) ∧
  ((v2 = 0 →
    ret (some (vi (-1))) (S0, m1)) ∧ (¬ (v2 = 0) →
    (∃ v4 m3, cal 115 [vl x2, vl (0 : Nat), vl 60] (S0, m1) (some (vi v4), (S0, m3)) ∧
    ((v4 ≠ 0 →
      (((m3 53 22) ≠ 6 →
        mIn (w32 (2 * (m3 53 22))) 12 (mIn (w32 ((w32 (2 * ((mupd m3 60 (w32 (2 * (m3 53 22))) x1) 53 22))) + 1)) 12 (ret (some (vi ((mupd (mupd (mupd m3 60 (w32 (2 * (m3 53 22))) x1) 60 (w32 ((w32 (2 * ((mupd m3 60 (w32 (2 * (m3 53 22))) x1) 53 22))) + 1)) x2) 53 22 (w32 (((mupd (mupd m3 60 (w32 (2 * (m3 53 22))) x1) 60 (w32 ((w32 (2 * ((mupd m3 60 (w32 (2 * (m3 53 22))) x1) 53 22))) + 1)) x2) 53 22) + 1))) 53 22))) (S0, mupd (mupd (mupd m3 60 (w32 (2 * (m3 53 22))) x1) 60 (w32 ((w32 (2 * ((mupd m3 60 (w32 (2 * (m3 53 22))) x1) 53 22))) + 1)) x2) 53 22 (w32 (((mupd (mupd m3 60 (w32 (2 * (m3 53 22))) x1) 60 (w32 ((w32 (2 * ((mupd m3 60 (w32 (2 * (m3 53 22))) x1) 53 22))) + 1)) x2) 53 22) + 1)))))) ∧ (¬ ((m3 53 22) ≠ 6) →
        ret (some (vi (-3))) (S0, m3)))) ∧ (¬ (v4 ≠ 0) →
      ret (some (vi (-1))) (S0, m3)))))))) :
  K 0 [(0, vr 53), (1, vi x1), (2, vi x2)] [] (S0, M) := by
  exact mQ hK [20, 22, 34] 4 0 0 b_M_see_0 rfl _ _ _ h
set_option maxRecDepth 40000 in
theorem q_M_forget_0 {cal : mCal} {lim : Nat × Nat} {scr : Nat × (Nat → Int)} {ret : Option mVal → mHp → Prop} {K : Nat → mLV → List mVal → mHp → Prop} (hK : mClo m_M_forget cal lim scr ret K) (x1 : Int) (M : mMem) (h :
  (∃ v2 m1, cal 115 [vl x1, vl (0 : Nat), vl (M 53 22)] (S0, M) (some (vi v2), (S0, m1)) ∧
  ((v2 ≠ 0 →
    ret (some (vi (m1 53 22))) (S0, mupd m1 53 22 x1)) ∧ (¬ (v2 ≠ 0) →
    ret (some (vi (-1))) (S0, m1))))) :
  K 0 [(0, vr 53), (1, vi x1)] [] (S0, M) := by
  exact mQ hK [16] 2 0 0 b_M_forget_0 rfl _ _ _ h
set_option maxRecDepth 40000 in
theorem q_M_isTooMany_0 {cal : mCal} {lim : Nat × Nat} {scr : Nat × (Nat → Int)} {ret : Option mVal → mHp → Prop} {K : Nat → mLV → List mVal → mHp → Prop} (hK : mClo m_M_isTooMany cal lim scr ret K)  (M : mMem) (h :
  K 7 [(0, vr 53), (1, vi 0)] [] (S0, mupd M 53 24 0)) :
  K 0 [(0, vr 53)] [] (S0, M) := by
  exact mQ hK [43, 49, 61, 62] 5 0 0 b_M_isTooMany_0 rfl _ _ _ h
set_option maxRecDepth 40000 in
theorem q_M_isTooMany_7 {cal : mCal} {lim : Nat × Nat} {scr : Nat × (Nat → Int)} {ret : Option mVal → mHp → Prop} {K : Nat → mLV → List mVal → mHp → Prop} (hK : mClo m_M_isTooMany cal lim scr ret K) (x1 : Int) (M : mMem) (h :
  ((36 ≤ x1 →
    (((M 53 24) ≤ 4 →
      ret (some (vi 0)) (S0, M)) ∧ (¬ ((M 53 24) ≤ 4) →
      ret (some (vi 1)) (S0, M)))) ∧ (¬ (36 ≤ x1) →
    mIn x1 510 ((((M 54 x1) ≠ 4 →
      K 7 [(0, vr 53), (1, vi (w32 (x1 + 1)))] [] (S0, M)) ∧ (¬ ((M 54 x1) ≠ 4) →
      mIn (M 53 24) 36 (K 7 [(0, vr 53), (1, vi (w32 (x1 + 1)))] [] (S0, mupd (mupd M 61 (M 53 24) x1) 53 24 (w32 (((mupd M 61 (M 53 24) x1) 53 24) + 1)))))))))) :
  K 7 [(0, vr 53), (1, vi x1)] [] (S0, M) := by
  exact mQ hK [43, 49, 61, 62] 5 1 7 b_M_isTooMany_7 rfl _ _ _ h
set_option maxRecDepth 40000 in
theorem q_M_fillMany_0 {cal : mCal} {lim : Nat × Nat} {scr : Nat × (Nat → Int)} {ret : Option mVal → mHp → Prop} {K : Nat → mLV → List mVal → mHp → Prop} (hK : mClo m_M_fillMany cal lim scr ret K)  (M : mMem) (h :
  ret (some (vi (jshl 1 (w32 (2 * (M 53 24)))))) (S0, M)) :
  K 0 [(0, vr 53)] [] (S0, M) := by
  exact mQ hK [] 1 0 0 b_M_fillMany_0 rfl _ _ _ h
set_option maxRecDepth 40000 in
theorem q_M_isFit_0 {cal : mCal} {lim : Nat × Nat} {scr : Nat × (Nat → Int)} {ret : Option mVal → mHp → Prop} {K : Nat → mLV → List mVal → mHp → Prop} (hK : mClo m_M_isFit cal lim scr ret K) (x1 : Int) (M : mMem) (h :
  (∃ m1, cal 154 [vr 53, vi 0, vi 340] (S0, M) (none, (S0, m1)) ∧
  K 10 [(0, vr 53), (1, vi x1), (2, vi 0)] [] (S0, m1))) :
  K 0 [(0, vr 53), (1, vi x1)] [] (S0, M) := by
  exact mQ hK [46, 110, 111, 118] 5 0 0 b_M_isFit_0 rfl _ _ _ h
set_option maxRecDepth 40000 in
theorem q_M_isFit_10 {cal : mCal} {lim : Nat × Nat} {scr : Nat × (Nat → Int)} {ret : Option mVal → mHp → Prop} {K : Nat → mLV → List mVal → mHp → Prop} (hK : mClo m_M_isFit cal lim scr ret K) (x1 : Int) (x2 : Int) (M : mMem) (h :
  (((M 53 24) ≤ x2 →
    K 50 [(0, vr 53), (2, vi 1), (3, vi 0)] [] (S0, M)) ∧ (¬ ((M 53 24) ≤ x2) →
    mIn x2 36 (mIn (w32 (340 + (M 61 x2))) 510 (K 10 [(0, vr 53), (1, vi x1), (2, vi (w32 (x2 + 1)))] [] (S0, mupd M 54 (w32 (340 + (M 61 x2))) (jand (jshr x1 (w32 (2 * x2))) 3))))))) :
  K 10 [(0, vr 53), (1, vi x1), (2, vi x2)] [] (S0, M) := by
  exact mQ hK [46, 110, 111, 118] 5 1 10 b_M_isFit_10 rfl _ _ _ h
set_option maxRecDepth 40000 in
theorem q_M_isFit_50 {cal : mCal} {lim : Nat × Nat} {scr : Nat × (Nat → Int)} {ret : Option mVal → mHp → Prop} {K : Nat → mLV → List mVal → mHp → Prop} (hK : mClo m_M_isFit cal lim scr ret K) (x2 : Int) (x3 : Int) (M : mMem) (h :
  (((M 53 22) ≤ x3 →
    mBo x2 (ret (some (vi x2)) (S0, M))) ∧ (¬ ((M 53 22) ≤ x3) →
    ((x2 = 0 →
      K 50 [(0, vr 53), (2, vi 0), (3, vi (w32 (x3 + 1)))] [] (S0, M)) ∧ (¬ (x2 = 0) →
      mIn (w32 (2 * x3)) 12 ((∃ v2 m1, cal 128 [vr 53, vi (M 60 (w32 (2 * x3)))] (S0, M) (some (vi v2), (S0, m1)) ∧
      ((v2 = 0 →
        K 50 [(0, vr 53), (2, vi 0), (3, vi (w32 (x3 + 1)))] [] (S0, m1)) ∧ (¬ (v2 = 0) →
        mIn (w32 (2 * x3)) 12 ((∃ v4 m3, cal 133 [vr 53, vi 340, vi (m1 60 (w32 (2 * x3))), vi 0] (S0, m1) (some (vi v4), (S0, m3)) ∧
        mIn (w32 ((w32 (2 * x3)) + 1)) 12 (((v4 ≠ (m3 60 (w32 ((w32 (2 * x3)) + 1))) →
          K 50 [(0, vr 53), (2, vi 0), (3, vi (w32 (x3 + 1)))] [] (S0, m3)) ∧ (¬ (v4 ≠ (m3 60 (w32 ((w32 (2 * x3)) + 1)))) →
          K 50 [(0, vr 53), (2, vi 1), (3, vi (w32 (x3 + 1)))] [] (S0, m3))))))))))))))) :
  K 50 [(0, vr 53), (2, vi x2), (3, vi x3)] [] (S0, M) := by
  exact mQ hK [46, 110, 111, 118] 5 3 50 b_M_isFit_50 rfl _ _ _ h
set_option maxRecDepth 40000 in
theorem q_M_fills_0 {cal : mCal} {lim : Nat × Nat} {scr : Nat × (Nat → Int)} {ret : Option mVal → mHp → Prop} {K : Nat → mLV → List mVal → mHp → Prop} (hK : mClo m_M_fills cal lim scr ret K)  (M : mMem) (h :
  (∃ v2 m1, cal 174 [vr 53] (S0, M) (some (vi v2), (S0, m1)) ∧
  ((v2 = 0 →
    K 14 [(0, vr 53), (1, vi 0), (2, vi 0)] [] (S0, m1)) ∧ (¬ (v2 = 0) →
    ret (some (vi (-2))) (S0, m1))))) :
  K 0 [(0, vr 53)] [] (S0, M) := by
  exact mQ hK [10, 35, 36, 44] 5 0 0 b_M_fills_0 rfl _ _ _ h
set_option maxRecDepth 40000 in
theorem q_M_fills_14 {cal : mCal} {lim : Nat × Nat} {scr : Nat × (Nat → Int)} {ret : Option mVal → mHp → Prop} {K : Nat → mLV → List mVal → mHp → Prop} (hK : mClo m_M_fills cal lim scr ret K) (x1 : Int) (x2 : Int) (M : mMem) (h :
  (∃ v2 m1, cal 175 [vr 53] (S0, M) (some (vi v2), (S0, m1)) ∧
  ((v2 ≤ x2 →
    ret (some (vi x1)) (S0, m1)) ∧ (¬ (v2 ≤ x2) →
    (∃ v4 m3, cal 176 [vr 53, vi x2] (S0, m1) (some (vi v4), (S0, m3)) ∧
    ((v4 = 0 →
      K 14 [(0, vr 53), (1, vi (w32 (x1 + 0))), (2, vi (w32 (x2 + 1)))] [] (S0, m3)) ∧ (¬ (v4 = 0) →
      K 14 [(0, vr 53), (1, vi (w32 (x1 + 1))), (2, vi (w32 (x2 + 1)))] [] (S0, m3)))))))) :
  K 14 [(0, vr 53), (1, vi x1), (2, vi x2)] [] (S0, M) := by
  exact mQ hK [10, 35, 36, 44] 5 2 14 b_M_fills_14 rfl _ _ _ h
set_option maxRecDepth 40000 in
theorem q_M_shades_0 {cal : mCal} {lim : Nat × Nat} {scr : Nat × (Nat → Int)} {ret : Option mVal → mHp → Prop} {K : Nat → mLV → List mVal → mHp → Prop} (hK : mClo m_M_shades cal lim scr ret K) (x1 : Int) (x2 : Int) (M : mMem) (h :
  (∃ v2 m1, cal 129 [vi x1, vi x2] (S0, M) (some (vi v2), (S0, m1)) ∧
  ((v2 ≠ 0 →
    (∃ v4 m3, cal 174 [vr 53] (S0, m1) (some (vi v4), (S0, m3)) ∧
    ((v4 ≠ 0 →
      ret (some (vi (-2))) (S0, m3)) ∧ (¬ (v4 ≠ 0) →
      mIn (w32 ((w32 (6 * x1)) + x2)) 510 ((((m3 54 (w32 ((w32 (6 * x1)) + x2))) = 4 →
        K 40 [(0, vr 53), (1, vi x1), (2, vi x2), (3, vi 0), (4, vi 0)] [] (S0, m3)) ∧ (¬ ((m3 54 (w32 ((w32 (6 * x1)) + x2))) = 4) →
        ret (some (vi (-2))) (S0, m3)))))))) ∧ (¬ (v2 ≠ 0) →
    ret (some (vi (-1))) (S0, m1))))) :
  K 0 [(0, vr 53), (1, vi x1), (2, vi x2)] [] (S0, M) := by
  exact mQ hK [10, 32, 35, 79, 80, 88] 7 0 0 b_M_shades_0 rfl _ _ _ h
set_option maxRecDepth 40000 in
theorem q_M_shades_40 {cal : mCal} {lim : Nat × Nat} {scr : Nat × (Nat → Int)} {ret : Option mVal → mHp → Prop} {K : Nat → mLV → List mVal → mHp → Prop} (hK : mClo m_M_shades cal lim scr ret K) (x1 : Int) (x2 : Int) (x3 : Int) (x4 : Int) (M : mMem) (h :
  (∃ v2 m1, cal 175 [vr 53] (S0, M) (some (vi v2), (S0, m1)) ∧
  ((v2 ≤ x4 →
    ret (some (vi x3)) (S0, m1)) ∧ (¬ (v2 ≤ x4) →
    (∃ v4 m3, cal 176 [vr 53, vi x4] (S0, m1) (some (vi v4), (S0, m3)) ∧
    ((v4 = 0 →
      K 40 [(0, vr 53), (1, vi x1), (2, vi x2), (3, vi (jor x3 0)), (4, vi (w32 (x4 + 1)))] [] (S0, m3)) ∧ (¬ (v4 = 0) →
      mIn (w32 ((w32 (340 + (w32 (6 * x1)))) + x2)) 510 (K 40 [(0, vr 53), (1, vi x1), (2, vi x2), (3, vi (jor x3 (jshl 1 (m3 54 (w32 ((w32 (340 + (w32 (6 * x1)))) + x2)))))), (4, vi (w32 (x4 + 1)))] [] (S0, m3))))))))) :
  K 40 [(0, vr 53), (1, vi x1), (2, vi x2), (3, vi x3), (4, vi x4)] [] (S0, M) := by
  exact mQ hK [10, 32, 35, 79, 80, 88] 7 4 40 b_M_shades_40 rfl _ _ _ h
set_option maxRecDepth 40000 in
theorem q_M_span_0 {cal : mCal} {lim : Nat × Nat} {scr : Nat × (Nat → Int)} {ret : Option mVal → mHp → Prop} {K : Nat → mLV → List mVal → mHp → Prop} (hK : mClo m_M_span cal lim scr ret K) (x1 : Int) (M : mMem) (h :
  (∃ v2 m1, cal 115 [vl x1, vl (0 : Nat), vl (1 : Nat)] (S0, M) (some (vi v2), (S0, m1)) ∧
  ((v2 ≠ 0 →
    (∃ v4 m3, cal 174 [vr 53] (S0, m1) (some (vi v4), (S0, m3)) ∧
    ((v4 = 0 →
      K 31 [(0, vr 53), (1, vi x1), (2, vi (-4)), (3, vi (-4)), (4, vi 0)] [] (S0, m3)) ∧ (¬ (v4 = 0) →
      ret (some (vi (-2))) (S0, m3))))) ∧ (¬ (v2 ≠ 0) →
    ret (some (vi (-1))) (S0, m1))))) :
  K 0 [(0, vr 53), (1, vi x1)] [] (S0, M) := by
  exact mQ hK [12, 22, 70, 75, 88, 89, 90, 96, 104, 105] 11 0 0 b_M_span_0 rfl _ _ _ h
set_option maxRecDepth 40000 in
theorem q_M_span_31 {cal : mCal} {lim : Nat × Nat} {scr : Nat × (Nat → Int)} {ret : Option mVal → mHp → Prop} {K : Nat → mLV → List mVal → mHp → Prop} (hK : mClo m_M_span cal lim scr ret K) (x1 : Int) (x2 : Int) (x3 : Int) (x4 : Int) (M : mMem) (h :
  (∃ v2 m1, cal 175 [vr 53] (S0, M) (some (vi v2), (S0, m1)) ∧
  ((v2 ≤ x4 →
    ((x1 ≠ 0 →
      ret (some (vi x3)) (S0, m1)) ∧ (¬ (x1 ≠ 0) →
      ret (some (vi x2)) (S0, m1)))) ∧ (¬ (v2 ≤ x4) →
    (∃ v4 m3, cal 176 [vr 53, vi x4] (S0, m1) (some (vi v4), (S0, m3)) ∧
    ((v4 = 0 →
      K 31 [(0, vr 53), (1, vi x1), (2, vi x2), (3, vi x3), (4, vi (w32 (x4 + 1)))] [] (S0, m3)) ∧ (¬ (v4 = 0) →
      (∃ v6 m5, cal 134 [vr 53, vi 340] (S0, m3) (some (vi v6), (S0, m5)) ∧
      ((x2 = (-4) →
        K 76 [(0, vr 53), (1, vi x1), (3, vi x3), (4, vi x4), (5, vi v6)] [vi v6] (S0, m5)) ∧ (¬ (x2 = (-4)) →
        ((x2 ≤ v6 →
          K 76 [(0, vr 53), (1, vi x1), (3, vi x3), (4, vi x4), (5, vi v6)] [vi x2] (S0, m5)) ∧ (¬ (x2 ≤ v6) →
          K 76 [(0, vr 53), (1, vi x1), (3, vi x3), (4, vi x4), (5, vi v6)] [vi v6] (S0, m5))))))))))))) :
  K 31 [(0, vr 53), (1, vi x1), (2, vi x2), (3, vi x3), (4, vi x4)] [] (S0, M) := by
  exact mQ hK [12, 22, 70, 75, 88, 89, 90, 96, 104, 105] 11 3 31 b_M_span_31 rfl _ _ _ h
set_option maxRecDepth 40000 in
theorem q_M_span_76 {cal : mCal} {lim : Nat × Nat} {scr : Nat × (Nat → Int)} {ret : Option mVal → mHp → Prop} {K : Nat → mLV → List mVal → mHp → Prop} (hK : mClo m_M_span cal lim scr ret K) (x1 : Int) (x3 : Int) (x4 : Int) (x5 : Int) (s0 : Int) (M : mMem) (h :
  ((x5 ≤ x3 →
    K 31 [(0, vr 53), (1, vi x1), (2, vi s0), (3, vi x3), (4, vi (w32 (x4 + 1)))] [] (S0, M)) ∧ (¬ (x5 ≤ x3) →
    K 31 [(0, vr 53), (1, vi x1), (2, vi s0), (3, vi x5), (4, vi (w32 (x4 + 1)))] [] (S0, M)))) :
  K 76 [(0, vr 53), (1, vi x1), (3, vi x3), (4, vi x4), (5, vi x5)] [vi s0] (S0, M) := by
  exact mQ hK [12, 22, 70, 75, 88, 89, 90, 96, 104, 105] 11 6 76 b_M_span_76 rfl _ _ _ h
set_option maxRecDepth 40000 in
theorem q_M_worstOf_0 {cal : mCal} {lim : Nat × Nat} {scr : Nat × (Nat → Int)} {ret : Option mVal → mHp → Prop} {K : Nat → mLV → List mVal → mHp → Prop} (hK : mClo m_M_worstOf cal lim scr ret K) (x1 : Int) (M : mMem) (h :
  K 4 [(0, vr 53), (1, vi x1), (2, vi 0), (3, vi 0)] [] (S0, M)) :
  K 0 [(0, vr 53), (1, vi x1)] [] (S0, M) := by
  exact mQ hK [23, 84, 85, 86, 92] 6 0 0 b_M_worstOf_0 rfl _ _ _ h
set_option maxRecDepth 40000 in
theorem q_M_worstOf_4 {cal : mCal} {lim : Nat × Nat} {scr : Nat × (Nat → Int)} {ret : Option mVal → mHp → Prop} {K : Nat → mLV → List mVal → mHp → Prop} (hK : mClo m_M_worstOf cal lim scr ret K) (x1 : Int) (x2 : Int) (x3 : Int) (M : mMem) (h :
  ((60 < x3 →
    K 25 [(0, vr 53), (1, vi x1), (2, vi x2), (3, vi 0)] [] (S0, M)) ∧ (¬ (60 < x3) →
    mIn x3 61 (K 4 [(0, vr 53), (1, vi x1), (2, vi x2), (3, vi (w32 (x3 + 1)))] [] (S0, mupd M 62 x3 0))))) :
  K 4 [(0, vr 53), (1, vi x1), (2, vi x2), (3, vi x3)] [] (S0, M) := by
  exact mQ hK [23, 84, 85, 86, 92] 6 1 4 b_M_worstOf_4 rfl _ _ _ h
set_option maxRecDepth 40000 in
theorem q_M_worstOf_25 {cal : mCal} {lim : Nat × Nat} {scr : Nat × (Nat → Int)} {ret : Option mVal → mHp → Prop} {K : Nat → mLV → List mVal → mHp → Prop} (hK : mClo m_M_worstOf cal lim scr ret K) (x1 : Int) (x2 : Int) (x3 : Int) (M : mMem) (h :
  (∃ v2 m1, cal 175 [vr 53] (S0, M) (some (vi v2), (S0, m1)) ∧
  ((v2 ≤ x3 →
    ret (some (vi x2)) (S0, m1)) ∧ (¬ (v2 ≤ x3) →
    (∃ v4 m3, cal 176 [vr 53, vi x3] (S0, m1) (some (vi v4), (S0, m3)) ∧
    ((v4 = 0 →
      K 25 [(0, vr 53), (1, vi x1), (2, vi x2), (3, vi (w32 (x3 + 1)))] [] (S0, m3)) ∧ (¬ (v4 = 0) →
      (∃ v6 m5, cal 133 [vr 53, vi 340, vi x1, vi 0] (S0, m3) (some (vi v6), (S0, m5)) ∧
      mIn v6 61 (mIn v6 61 (mIn v6 61 (((((mupd m5 62 v6 (w32 ((m5 62 v6) + 1))) 62 v6) ≤ x2 →
        K 25 [(0, vr 53), (1, vi x1), (2, vi x2), (3, vi (w32 (x3 + 1)))] [] (S0, mupd m5 62 v6 (w32 ((m5 62 v6) + 1)))) ∧ (¬ (((mupd m5 62 v6 (w32 ((m5 62 v6) + 1))) 62 v6) ≤ x2) →
        mIn v6 61 (K 25 [(0, vr 53), (1, vi x1), (2, vi ((mupd m5 62 v6 (w32 ((m5 62 v6) + 1))) 62 v6)), (3, vi (w32 (x3 + 1)))] [] (S0, mupd m5 62 v6 (w32 ((m5 62 v6) + 1))))))))))))))))) :
  K 25 [(0, vr 53), (1, vi x1), (2, vi x2), (3, vi x3)] [] (S0, M) := by
  exact mQ hK [23, 84, 85, 86, 92] 6 3 25 b_M_worstOf_25 rfl _ _ _ h
set_option maxRecDepth 40000 in
theorem q_M_ask_0 {cal : mCal} {lim : Nat × Nat} {scr : Nat × (Nat → Int)} {ret : Option mVal → mHp → Prop} {K : Nat → mLV → List mVal → mHp → Prop} (hK : mClo m_M_ask cal lim scr ret K) (x1 : Int) (M : mMem) (h :
  (∃ v2 m1, cal 115 [vl x1, vl (0 : Nat), vl (1 : Nat)] (S0, M) (some (vi v2), (S0, m1)) ∧
  ((v2 ≠ 0 →
    (∃ v4 m3, cal 174 [vr 53] (S0, m1) (some (vi v4), (S0, m3)) ∧
    ((v4 = 0 →
      (∃ v6 m5, cal 177 [vr 53] (S0, m3) (some (vi v6), (S0, m5)) ∧
      K 33 [(0, vr 53), (1, vi x1), (2, vi v6), (3, vi (-4)), (4, vi 0)] [] (S0, m5))) ∧ (¬ (v4 = 0) →
      ret (some (vi (-2))) (S0, m3))))) ∧ (¬ (v2 ≠ 0) →
    ret (some (vi (-1))) (S0, m1))))) :
  K 0 [(0, vr 53), (1, vi x1)] [] (S0, M) := by
  exact mQ hK [12, 22, 64, 77, 78, 85, 95, 99, 100] 10 0 0 b_M_ask_0 rfl _ _ _ h
set_option maxRecDepth 40000 in
theorem q_M_ask_33 {cal : mCal} {lim : Nat × Nat} {scr : Nat × (Nat → Int)} {ret : Option mVal → mHp → Prop} {K : Nat → mLV → List mVal → mHp → Prop} (hK : mClo m_M_ask cal lim scr ret K) (x1 : Int) (x2 : Int) (x3 : Int) (x4 : Int) (M : mMem) (h :
  (((M 54 39) ≤ x4 →
    ((x3 = (-4) →
      ret (some (vi x3)) (S0, M)) ∧ (¬ (x3 = (-4)) →
      ((x1 ≠ 0 →
        ret (some (vi x2)) (S0, M)) ∧ (¬ (x1 ≠ 0) →
        ret (some (vi x3)) (S0, M)))))) ∧ (¬ ((M 54 39) ≤ x4) →
    (∃ v2 m1, cal 180 [vr 53, vi x4] (S0, M) (some (vi v2), (S0, m1)) ∧
    ((x2 ≤ v2 →
      K 65 [(0, vr 53), (1, vi x1), (2, vi x2), (4, vi x4), (5, vi v2)] [vi x3] (S0, m1)) ∧ (¬ (x2 ≤ v2) →
      K 65 [(0, vr 53), (1, vi x1), (2, vi x2), (4, vi x4), (5, vi v2)] [vi x4] (S0, m1))))))) :
  K 33 [(0, vr 53), (1, vi x1), (2, vi x2), (3, vi x3), (4, vi x4)] [] (S0, M) := by
  exact mQ hK [12, 22, 64, 77, 78, 85, 95, 99, 100] 10 3 33 b_M_ask_33 rfl _ _ _ h
set_option maxRecDepth 40000 in
theorem q_M_ask_65 {cal : mCal} {lim : Nat × Nat} {scr : Nat × (Nat → Int)} {ret : Option mVal → mHp → Prop} {K : Nat → mLV → List mVal → mHp → Prop} (hK : mClo m_M_ask cal lim scr ret K) (x1 : Int) (x2 : Int) (x4 : Int) (x5 : Int) (s0 : Int) (M : mMem) (h :
  ((x2 ≤ x5 →
    K 33 [(0, vr 53), (1, vi x1), (2, vi x2), (3, vi s0), (4, vi (w32 (x4 + 1)))] [] (S0, M)) ∧ (¬ (x2 ≤ x5) →
    K 33 [(0, vr 53), (1, vi x1), (2, vi x5), (3, vi s0), (4, vi (w32 (x4 + 1)))] [] (S0, M)))) :
  K 65 [(0, vr 53), (1, vi x1), (2, vi x2), (4, vi x4), (5, vi x5)] [vi s0] (S0, M) := by
  exact mQ hK [12, 22, 64, 77, 78, 85, 95, 99, 100] 10 5 65 b_M_ask_65 rfl _ _ _ h
set_option maxRecDepth 40000 in
theorem q_M_drift_0 {cal : mCal} {lim : Nat × Nat} {scr : Nat × (Nat → Int)} {ret : Option mVal → mHp → Prop} {K : Nat → mLV → List mVal → mHp → Prop} (hK : mClo m_M_drift cal lim scr ret K) (x1 : Int) (x2 : Int) (x3 : Int) (M : mMem) (h :
  (∃ v2 m1, cal 115 [vl x2, vl (1 : Nat), vl 60] (S0, M) (some (vi v2), (S0, m1)) ∧
  ((v2 = 0 →
    ret (some (vi (-1))) (S0, m1)) ∧ (¬ (v2 = 0) →
    (∃ v4 m3, cal 115 [vl x3, vl (0 : Nat), vl (1 : Nat)] (S0, m1) (some (vi v4), (S0, m3)) ∧
    ((v4 ≠ 0 →
      (∃ m5, cal 154 [vr 53, vi 0, vi 340] (S0, m3) (none, (S0, m5)) ∧
      K 38 [(0, vr 53), (2, vi x2), (3, vi x3), (4, vi x1), (5, vi 0)] [] (S0, m5))) ∧ (¬ (v4 ≠ 0) →
      ret (some (vi (-1))) (S0, m3)))))))) :
  K 0 [(0, vr 53), (1, vi x1), (2, vi x2), (3, vi x3)] [] (S0, M) := by
  exact mQ hK [22, 24, 113, 133, 134, 135, 141, 155, 162] 10 0 0 b_M_drift_0 rfl _ _ _ h
set_option maxRecDepth 40000 in
theorem q_M_drift_38 {cal : mCal} {lim : Nat × Nat} {scr : Nat × (Nat → Int)} {ret : Option mVal → mHp → Prop} {K : Nat → mLV → List mVal → mHp → Prop} (hK : mClo m_M_drift cal lim scr ret K) (x2 : Int) (x3 : Int) (x4 : Int) (x5 : Int) (M : mMem) (h :
  ((x2 ≤ x5 →
    ((x3 ≠ 0 →
      (∃ v2 m1, cal 136 [vr 53, vi 340] (S0, M) (some (vi v2), (S0, m1)) ∧
      ret (some (vi v2)) (S0, m1))) ∧ (¬ (x3 ≠ 0) →
      (∃ v4 m3, cal 134 [vr 53, vi 340] (S0, M) (some (vi v4), (S0, m3)) ∧
      ret (some (vi v4)) (S0, m3))))) ∧ (¬ (x2 ≤ x5) →
    K 66 [(0, vr 53), (2, vi x2), (3, vi x3), (4, vi (w32 ((w32 (x4 * 1103515245)) + 12345))), (5, vi x5), (6, vi (jand (jshr (w32 ((w32 (x4 * 1103515245)) + 12345)) 16) 32767))] [] (S0, M)))) :
  K 38 [(0, vr 53), (2, vi x2), (3, vi x3), (4, vi x4), (5, vi x5)] [] (S0, M) := by
  exact mQ hK [22, 24, 113, 133, 134, 135, 141, 155, 162] 10 3 38 b_M_drift_38 rfl _ _ _ h
set_option maxRecDepth 40000 in
theorem q_M_drift_66 {cal : mCal} {lim : Nat × Nat} {scr : Nat × (Nat → Int)} {ret : Option mVal → mHp → Prop} {K : Nat → mLV → List mVal → mHp → Prop} (hK : mClo m_M_drift cal lim scr ret K) (x2 : Int) (x3 : Int) (x4 : Int) (x5 : Int) (x6 : Int) (M : mMem) (h :
  mIn (w32 (340 + (jrem x6 36))) 510 (K 86 [(0, vr 53), (2, vi x2), (3, vi x3), (4, vi x4), (5, vi x5), (6, vi x6), (7, vi (jrem x6 36)), (8, vi (M 54 (w32 (340 + (jrem x6 36)))))] [] (S0, M))) :
  K 66 [(0, vr 53), (2, vi x2), (3, vi x3), (4, vi x4), (5, vi x5), (6, vi x6)] [] (S0, M) := by
  exact mQ hK [22, 24, 113, 133, 134, 135, 141, 155, 162] 10 4 66 b_M_drift_66 rfl _ _ _ h
set_option maxRecDepth 40000 in
theorem q_M_drift_86 {cal : mCal} {lim : Nat × Nat} {scr : Nat × (Nat → Int)} {ret : Option mVal → mHp → Prop} {K : Nat → mLV → List mVal → mHp → Prop} (hK : mClo m_M_drift cal lim scr ret K) (x2 : Int) (x3 : Int) (x4 : Int) (x5 : Int) (x6 : Int) (x7 : Int) (x8 : Int) (M : mMem) (h :
  ((x8 ≠ 0 →
    ((x8 ≠ 4 →
      mIn (w32 (340 + x7)) 510 (K 38 [(0, vr 53), (2, vi x2), (3, vi x3), (4, vi x4), (5, vi (w32 (x5 + 1)))] [] (S0, mupd M 54 (w32 (340 + x7)) 4))) ∧ (¬ (x8 ≠ 4) →
      mIn (w32 (340 + x7)) 510 (K 38 [(0, vr 53), (2, vi x2), (3, vi x3), (4, vi x4), (5, vi (w32 (x5 + 1)))] [] (S0, mupd M 54 (w32 (340 + x7)) 0))))) ∧ (¬ (x8 ≠ 0) →
    (∃ v2 m1, cal 148 [vr 53, vi 340, vi x7, vi (w32 (1 + (jrem (jdiv x6 64) 3)))] (S0, M) (some (vi v2), (S0, m1)) ∧
    K 38 [(0, vr 53), (2, vi x2), (3, vi x3), (4, vi x4), (5, vi (w32 (x5 + 1)))] [] (S0, m1))))) :
  K 86 [(0, vr 53), (2, vi x2), (3, vi x3), (4, vi x4), (5, vi x5), (6, vi x6), (7, vi x7), (8, vi x8)] [] (S0, M) := by
  exact mQ hK [22, 24, 113, 133, 134, 135, 141, 155, 162] 10 5 86 b_M_drift_86 rfl _ _ _ h
set_option maxRecDepth 40000 in
theorem q_M_keep_0 {cal : mCal} {lim : Nat × Nat} {scr : Nat × (Nat → Int)} {ret : Option mVal → mHp → Prop} {K : Nat → mLV → List mVal → mHp → Prop} (hK : mClo m_M_keep cal lim scr ret K) (x1 : Int) (M : mMem) (h :
  (∃ v2 m1, cal 115 [vl x1, vl (0 : Nat), vl (1 : Nat)] (S0, M) (some (vi v2), (S0, m1)) ∧
  ((v2 ≠ 0 →
    (∃ m3, cal 154 [vr 53, vi 0, vi (w32 (85 * (w32 (x1 + 1))))] (S0, m1) (none, (S0, m3)) ∧
    mIn x1 2 ((((m3 63 x1) = 0 →
      mIn x1 2 (ret (some (vi 0)) (S0, mupd m3 63 x1 1))) ∧ (¬ ((m3 63 x1) = 0) →
      mIn x1 2 (ret (some (vi 1)) (S0, mupd m3 63 x1 1))))))) ∧ (¬ (v2 ≠ 0) →
    ret (some (vi (-1))) (S0, m1))))) :
  K 0 [(0, vr 53), (1, vi x1)] [] (S0, M) := by
  exact mQ hK [12, 36, 37] 4 0 0 b_M_keep_0 rfl _ _ _ h
set_option maxRecDepth 40000 in
theorem q_M_back_0 {cal : mCal} {lim : Nat × Nat} {scr : Nat × (Nat → Int)} {ret : Option mVal → mHp → Prop} {K : Nat → mLV → List mVal → mHp → Prop} (hK : mClo m_M_back cal lim scr ret K) (x1 : Int) (M : mMem) (h :
  (∃ v2 m1, cal 115 [vl x1, vl (0 : Nat), vl (1 : Nat)] (S0, M) (some (vi v2), (S0, m1)) ∧
  ((v2 ≠ 0 →
    mIn x1 2 ((((m1 63 x1) ≠ 0 →
      (∃ m3, cal 154 [vr 53, vi (w32 (85 * (w32 (x1 + 1)))), vi 0] (S0, m1) (none, (S0, m3)) ∧
      (∃ v5 m4, cal 134 [vr 53, vi 0] (S0, m3) (some (vi v5), (S0, m4)) ∧
      ret (some (vi v5)) (S0, m4)))) ∧ (¬ ((m1 63 x1) ≠ 0) →
      ret (some (vi (-2))) (S0, m1))))) ∧ (¬ (v2 ≠ 0) →
    ret (some (vi (-1))) (S0, m1))))) :
  K 0 [(0, vr 53), (1, vi x1)] [] (S0, M) := by
  exact mQ hK [12, 24] 3 0 0 b_M_back_0 rfl _ _ _ h
set_option maxRecDepth 40000 in
theorem q_M_sheet_0 {cal : mCal} {lim : Nat × Nat} {scr : Nat × (Nat → Int)} {ret : Option mVal → mHp → Prop} {K : Nat → mLV → List mVal → mHp → Prop} (hK : mClo m_M_sheet cal lim scr ret K) (x1 : Int) (x2 : Int) (x3 : Int) (M : mMem) (h :
  (∃ v2 m1, cal 115 [vl x1, vl (0 : Nat), vl 3] (S0, M) (some (vi v2), (S0, m1)) ∧
  ((v2 = 0 →
    ret (some (vi (-1))) (S0, m1)) ∧ (¬ (v2 = 0) →
    (∃ v4 m3, cal 115 [vl x2, vl (0 : Nat), vl 2] (S0, m1) (some (vi v4), (S0, m3)) ∧
    ((v4 = 0 →
      ret (some (vi (-1))) (S0, m3)) ∧ (¬ (v4 = 0) →
      ((x3 ≤ 40 →
        ((0 ≤ x3 →
          mIn x1 4 (mIn x1 4 (K 56 [(0, vr 53), (1, vi x1), (4, vi 0)] [] (S0, mupd (mupd m3 64 x1 x2) 65 x1 x3)))) ∧ (¬ (0 ≤ x3) →
          ret (some (vi (-14))) (S0, m3)))) ∧ (¬ (x3 ≤ 40) →
        ret (some (vi (-1))) (S0, m3)))))))))) :
  K 0 [(0, vr 53), (1, vi x1), (2, vi x2), (3, vi x3)] [] (S0, M) := by
  exact mQ hK [30, 32, 39, 82] 5 0 0 b_M_sheet_0 rfl _ _ _ h
set_option maxRecDepth 40000 in
theorem q_M_sheet_56 {cal : mCal} {lim : Nat × Nat} {scr : Nat × (Nat → Int)} {ret : Option mVal → mHp → Prop} {K : Nat → mLV → List mVal → mHp → Prop} (hK : mClo m_M_sheet cal lim scr ret K) (x1 : Int) (x4 : Int) (M : mMem) (h :
  ((40 ≤ x4 →
    ret (some (vi 1)) (S0, M)) ∧ (¬ (40 ≤ x4) →
    mIn (w32 ((w32 (40 * x1)) + x4)) 160 (K 56 [(0, vr 53), (1, vi x1), (4, vi (w32 (x4 + 1)))] [] (S0, mupd M 66 (w32 ((w32 (40 * x1)) + x4)) 0))))) :
  K 56 [(0, vr 53), (1, vi x1), (4, vi x4)] [] (S0, M) := by
  exact mQ hK [30, 32, 39, 82] 5 4 56 b_M_sheet_56 rfl _ _ _ h
set_option maxRecDepth 40000 in
theorem q_M_lay_0 {cal : mCal} {lim : Nat × Nat} {scr : Nat × (Nat → Int)} {ret : Option mVal → mHp → Prop} {K : Nat → mLV → List mVal → mHp → Prop} (hK : mClo m_M_lay cal lim scr ret K) (x1 : Int) (x2 : Int) (x3 : Int) (M : mMem) (h :
  (∃ v2 m1, cal 115 [vl x1, vl (0 : Nat), vl 3] (S0, M) (some (vi v2), (S0, m1)) ∧
  ((v2 ≠ 0 →
    mIn x1 4 ((((m1 64 x1) ≠ (-4) →
      mIn x1 4 ((∃ v4 m3, cal 115 [vl x2, vl (0 : Nat), vl (w32 ((m1 65 x1) - 1))] (S0, m1) (some (vi v4), (S0, m3)) ∧
      ((v4 ≠ 0 →
        mIn x1 4 ((((m3 64 x1) ≠ 0 →
          mIn x1 4 ((((m3 64 x1) ≠ 1 →
            mIn (w32 ((w32 (40 * x1)) + x2)) 160 (ret (some (vi 1)) (S0, mupd m3 66 (w32 ((w32 (40 * x1)) + x2)) x3))) ∧ (¬ ((m3 64 x1) ≠ 1) →
            mIn (w32 ((w32 (40 * x1)) + x2)) 160 (ret (some (vi 1)) (S0, mupd m3 66 (w32 ((w32 (40 * x1)) + x2)) (jshr (jshl x3 16) 16))))))) ∧ (¬ ((m3 64 x1) ≠ 0) →
          mIn (w32 ((w32 (40 * x1)) + x2)) 160 (ret (some (vi 1)) (S0, mupd m3 66 (w32 ((w32 (40 * x1)) + x2)) (jshr (jshl x3 24) 24))))))) ∧ (¬ (v4 ≠ 0) →
        ret (some (vi (-12))) (S0, m3)))))) ∧ (¬ ((m1 64 x1) ≠ (-4)) →
      ret (some (vi (-11))) (S0, m1))))) ∧ (¬ (v2 ≠ 0) →
    ret (some (vi (-1))) (S0, m1))))) :
  K 0 [(0, vr 53), (1, vi x1), (2, vi x2), (3, vi x3)] [] (S0, M) := by
  exact mQ hK [14, 28, 49, 78, 98, 99] 7 0 0 b_M_lay_0 rfl _ _ _ h
set_option maxRecDepth 40000 in
theorem q_M_read_0 {cal : mCal} {lim : Nat × Nat} {scr : Nat × (Nat → Int)} {ret : Option mVal → mHp → Prop} {K : Nat → mLV → List mVal → mHp → Prop} (hK : mClo m_M_read cal lim scr ret K) (x1 : Int) (x2 : Int) (x3 : Int) (x4 : Int) (M : mMem) (h :
  (∃ v2 m1, cal 115 [vl x1, vl (0 : Nat), vl 3] (S0, M) (some (vi v2), (S0, m1)) ∧
  ((v2 = 0 →
    ret (some (vi (-1))) (S0, m1)) ∧ (¬ (v2 = 0) →
    (∃ v4 m3, cal 115 [vl x2, vl (0 : Nat), vl 2] (S0, m1) (some (vi v4), (S0, m3)) ∧
    ((v4 = 0 →
      ret (some (vi (-1))) (S0, m3)) ∧ (¬ (v4 = 0) →
      (∃ v6 m5, cal 115 [vl x4, vl (0 : Nat), vl 13] (S0, m3) (some (vi v6), (S0, m5)) ∧
      ((v6 ≠ 0 →
        (∃ m7, cal 154 [vr 53, vi 0, vi 255] (S0, m5) (none, (S0, m7)) ∧
        K 56 [(0, vr 53), (1, vi x1), (2, vi x2), (3, vi x3), (4, vi x4), (5, vi 0), (6, vi 0), (7, vi 0)] [] (S0, m7))) ∧ (¬ (v6 ≠ 0) →
        ret (some (vi (-1))) (S0, m5))))))))))) :
  K 0 [(0, vr 53), (1, vi x1), (2, vi x2), (3, vi x3), (4, vi x4)] [] (S0, M) := by
  exact mQ hK [37, 39, 85, 99, 125, 198, 201, 207] 9 0 0 b_M_read_0 rfl _ _ _ h
set_option maxRecDepth 40000 in
theorem q_M_read_56 {cal : mCal} {lim : Nat × Nat} {scr : Nat × (Nat → Int)} {ret : Option mVal → mHp → Prop} {K : Nat → mLV → List mVal → mHp → Prop} (hK : mClo m_M_read cal lim scr ret K) (x1 : Int) (x2 : Int) (x3 : Int) (x4 : Int) (x5 : Int) (x6 : Int) (x7 : Int) (M : mMem) (h :
  (((w32 (3 * x4)) ≤ x7 →
    ret (some (vi x6)) (S0, mupd M 53 30 x5)) ∧ (¬ ((w32 (3 * x4)) ≤ x7) →
    ((x5 ≠ 0 →
      ret (some (vi x6)) (S0, mupd M 53 30 x5)) ∧ (¬ (x5 ≠ 0) →
      mIn x1 4 ((((M 64 x1) ≠ (-4) →
        mIn x1 4 ((((M 64 x1) = x2 →
          mIn x1 4 ((∃ v2 m1, cal 115 [vl (w64 (x3 + x7)), vl (0 : Nat), vl (w32 ((M 65 x1) - 1))] (S0, M) (some (vi v2), (S0, m1)) ∧
          ((v2 ≠ 0 →
            K 126 [(0, vr 53), (1, vi x1), (2, vi x2), (3, vi x3), (4, vi x4), (6, vi x6), (7, vi x7)] [vi 0] (S0, m1)) ∧ (¬ (v2 ≠ 0) →
            K 126 [(0, vr 53), (1, vi x1), (2, vi x2), (3, vi x3), (4, vi x4), (6, vi x6), (7, vi x7)] [vi 2] (S0, m1)))))) ∧ (¬ ((M 64 x1) = x2) →
          K 126 [(0, vr 53), (1, vi x1), (2, vi x2), (3, vi x3), (4, vi x4), (6, vi x6), (7, vi x7)] [vi 3] (S0, M))))) ∧ (¬ ((M 64 x1) ≠ (-4)) →
        K 126 [(0, vr 53), (1, vi x1), (2, vi x2), (3, vi x3), (4, vi x4), (6, vi x6), (7, vi x7)] [vi 1] (S0, M))))))))) :
  K 56 [(0, vr 53), (1, vi x1), (2, vi x2), (3, vi x3), (4, vi x4), (5, vi x5), (6, vi x6), (7, vi x7)] [] (S0, M) := by
  exact mQ hK [37, 39, 85, 99, 125, 198, 201, 207] 9 3 56 b_M_read_56 rfl _ _ _ h
set_option maxRecDepth 40000 in
theorem q_M_read_126 {cal : mCal} {lim : Nat × Nat} {scr : Nat × (Nat → Int)} {ret : Option mVal → mHp → Prop} {K : Nat → mLV → List mVal → mHp → Prop} (hK : mClo m_M_read cal lim scr ret K) (x1 : Int) (x2 : Int) (x3 : Int) (x4 : Int) (x6 : Int) (x7 : Int) (s0 : Int) (M : mMem) (h :
  ((s0 ≠ 0 →
    K 56 [(0, vr 53), (1, vi x1), (2, vi x2), (3, vi x3), (4, vi x4), (5, vi s0), (6, vi x6), (7, vi (w32 (x7 + 1)))] [] (S0, M)) ∧ (¬ (s0 ≠ 0) →
    (((jrem x7 3) ≠ 2 →
      K 56 [(0, vr 53), (1, vi x1), (2, vi x2), (3, vi x3), (4, vi x4), (5, vi s0), (6, vi x6), (7, vi (w32 (x7 + 1)))] [] (S0, M)) ∧ (¬ ((jrem x7 3) ≠ 2) →
      mIn (w32 ((w32 ((w32 ((w32 (40 * x1)) + x3)) + x7)) - 2)) 160 (mIn (w32 ((w32 ((w32 ((w32 (40 * x1)) + x3)) + x7)) - 1)) 160 (mIn (w32 ((w32 ((w32 (40 * x1)) + x3)) + x7)) 160 ((∃ v2 m1, cal 149 [vr 53, vi (M 66 (w32 ((w32 ((w32 ((w32 (40 * x1)) + x3)) + x7)) - 2))), vi (M 66 (w32 ((w32 ((w32 ((w32 (40 * x1)) + x3)) + x7)) - 1))), vi (M 66 (w32 ((w32 ((w32 (40 * x1)) + x3)) + x7)))] (S0, M) (some (vi v2), (S0, m1)) ∧
      ((0 ≤ v2 →
        K 56 [(0, vr 53), (1, vi x1), (2, vi x2), (3, vi x3), (4, vi x4), (5, vi s0), (6, vi (w32 (x6 + 1))), (7, vi (w32 (x7 + 1)))] [] (S0, m1)) ∧ (¬ (0 ≤ v2) →
        (∃ m3, cal 154 [vr 53, vi 255, vi 0] (S0, m1) (none, (S0, m3)) ∧
        ret (some (vi (w32 ((-20) - x6)))) (S0, m3))))))))))))) :
  K 126 [(0, vr 53), (1, vi x1), (2, vi x2), (3, vi x3), (4, vi x4), (6, vi x6), (7, vi x7)] [vi s0] (S0, M) := by
  exact mQ hK [37, 39, 85, 99, 125, 198, 201, 207] 9 7 126 b_M_read_126 rfl _ _ _ h
set_option maxRecDepth 40000 in
theorem q_M_torn_0 {cal : mCal} {lim : Nat × Nat} {scr : Nat × (Nat → Int)} {ret : Option mVal → mHp → Prop} {K : Nat → mLV → List mVal → mHp → Prop} (hK : mClo m_M_torn cal lim scr ret K)  (M : mMem) (h :
  ret (some (vi (M 53 30))) (S0, M)) :
  K 0 [(0, vr 53)] [] (S0, M) := by
  exact mQ hK [] 1 0 0 b_M_torn_0 rfl _ _ _ h
set_option maxRecDepth 40000 in
theorem q_M_count_0 {cal : mCal} {lim : Nat × Nat} {scr : Nat × (Nat → Int)} {ret : Option mVal → mHp → Prop} {K : Nat → mLV → List mVal → mHp → Prop} (hK : mClo m_M_count cal lim scr ret K) (x1 : Int) (M : mMem) (h :
  K 4 [(0, vr 53), (1, vi x1), (2, vi 0), (3, vi 0)] [] (S0, M)) :
  K 0 [(0, vr 53), (1, vi x1)] [] (S0, M) := by
  exact mQ hK [30, 68, 73, 86, 100, 101, 103, 108, 124, 130, 131, 133, 138] 14 0 0 b_M_count_0 rfl _ _ _ h
set_option maxRecDepth 40000 in
theorem q_M_count_4 {cal : mCal} {lim : Nat × Nat} {scr : Nat × (Nat → Int)} {ret : Option mVal → mHp → Prop} {K : Nat → mLV → List mVal → mHp → Prop} (hK : mClo m_M_count cal lim scr ret K) (x1 : Int) (x2 : Int) (x3 : Int) (M : mMem) (h :
  ((3 ≤ x3 →
    (((x1 = ((0 : Nat) : Int) →
      ret (some (vi (M 53 22))) (S0, M)) ∧ 
    (x1 = ((1 : Nat) : Int) →
      (((M 63 0) = 0 →
        K 87 [(0, vr 53)] [vi 0] (S0, M)) ∧ (¬ ((M 63 0) = 0) →
        K 87 [(0, vr 53)] [vi 1] (S0, M)))) ∧ 
    (x1 = ((2 : Nat) : Int) →
      ret (some (vi (M 53 5))) (S0, M)) ∧ 
    (x1 = ((3 : Nat) : Int) →
      (((M 64 0) ≠ (-4) →
        ret (some (vi (M 65 0))) (S0, M)) ∧ (¬ ((M 64 0) ≠ (-4)) →
        ret (some (vi (-4))) (S0, M)))) ∧ 
    (x1 = ((4 : Nat) : Int) →
      ret (some (vi x2)) (S0, M)) ∧ 
    (x1 = ((5 : Nat) : Int) →
      (∃ v2 m1, cal 168 [vr 53] (S0, M) (some (vi v2), (S0, m1)) ∧
      ret (some (vi v2)) (S0, m1))) ∧ True) ∧ ((x1 < 0 ∨ ((6 : Nat) : Int) ≤ x1) →
      ret (some (vi (-1))) (S0, M)))) ∧ (¬ (3 ≤ x3) →
    mIn (w32 (36 + x3)) 510 (K 4 [(0, vr 53), (1, vi x1), (2, vi (w32 (x2 + (w32 ((M 54 (w32 (36 + x3))) + 20))))), (3, vi (w32 (x3 + 1)))] [] (S0, M))))) :
  K 4 [(0, vr 53), (1, vi x1), (2, vi x2), (3, vi x3)] [] (S0, M) := by
  exact mQ hK [30, 68, 73, 86, 100, 101, 103, 108, 124, 130, 131, 133, 138] 14 1 4 b_M_count_4 rfl _ _ _ h
set_option maxRecDepth 40000 in
theorem q_M_count_87 {cal : mCal} {lim : Nat × Nat} {scr : Nat × (Nat → Int)} {ret : Option mVal → mHp → Prop} {K : Nat → mLV → List mVal → mHp → Prop} (hK : mClo m_M_count cal lim scr ret K) (s0 : Int) (M : mMem) (h :
  (((M 63 1) = 0 →
    ret (some (vi (w32 (s0 + 0)))) (S0, M)) ∧ (¬ ((M 63 1) = 0) →
    ret (some (vi (w32 (s0 + 1)))) (S0, M)))) :
  K 87 [(0, vr 53)] [vi s0] (S0, M) := by
  exact mQ hK [30, 68, 73, 86, 100, 101, 103, 108, 124, 130, 131, 133, 138] 14 6 87 b_M_count_87 rfl _ _ _ h
