set_option maxRecDepth 40000 in
theorem q_C_clear_0 {cal : mCal} {lim : Nat × Nat} {scr : Nat × (Nat → Int)} {ret : Option mVal → mHp → Prop} {K : Nat → mLV → List mVal → mHp → Prop} (hK : mClo m_C_clear cal lim scr ret K)  (M : mMem) (h :
  (∃ m1, cal 190 [vr 10, vi 0] (S0, M) (none, (S0, m1)) ∧
  (∃ m2, cal 190 [vr 15, vi 0] (S0, m1) (none, (S0, m2)) ∧
  (∃ m3, cal 190 [vr 16, vi 0] (S0, m2) (none, (S0, m3)) ∧
  (∃ m4, cal 190 [vr 11, vi 20] (S0, mupd (mupd m3 15 0 30) 16 0 30) (none, (S0, m4)) ∧
  ret none (S0, mupd (mupd m4 9 5 0) 9 6 0)))))) :
  K 0 [(0, vr 9)] [] (S0, M) := by
  exact mQ hK [] 1 0 0 b_C_clear_0 rfl _ _ _ h
set_option maxRecDepth 40000 in
theorem q_C_copyFrom_0 {cal : mCal} {lim : Nat × Nat} {scr : Nat × (Nat → Int)} {ret : Option mVal → mHp → Prop} {K : Nat → mLV → List mVal → mHp → Prop} (hK : mClo m_C_copyFrom cal lim scr ret K) (c0 : Nat) (c1 : Nat) (M : mMem) (hc : (c0 = 1 ∧ c1 = 9) ∨ (c0 = 9 ∧ c1 = 1) ∨ (c0 = 18 ∧ c1 = 1) ∨ (c0 = 27 ∧ c1 = 1) ∨ (c0 = 1 ∧ c1 = 18) ∨ (c0 = 1 ∧ c1 = 27)) (h :
  (((0 : Int) ≤ 36 ∧ (0 : Int) ≤ 0 ∧ (0 : Int) ≤ 0 ∧ 0 + 36 ≤ ((36 : Nat) : Int) ∧ 0 + 36 ≤ ((36 : Nat) : Int)) ∧
  (((0 : Int) ≤ 25 ∧ (0 : Int) ≤ 0 ∧ (0 : Int) ≤ 0 ∧ 0 + 25 ≤ ((25 : Nat) : Int) ∧ 0 + 25 ≤ ((25 : Nat) : Int)) ∧
  (((0 : Int) ≤ 25 ∧ (0 : Int) ≤ 0 ∧ (0 : Int) ≤ 0 ∧ 0 + 25 ≤ ((25 : Nat) : Int) ∧ 0 + 25 ≤ ((25 : Nat) : Int)) ∧
  (((0 : Int) ≤ 4 ∧ (0 : Int) ≤ 0 ∧ (0 : Int) ≤ 0 ∧ 0 + 4 ≤ ((4 : Nat) : Int) ∧ 0 + 4 ≤ ((4 : Nat) : Int)) ∧
  (((0 : Int) ≤ 20 ∧ (0 : Int) ≤ 0 ∧ (0 : Int) ≤ 0 ∧ 0 + 20 ≤ ((20 : Nat) : Int) ∧ 0 + 20 ≤ ((20 : Nat) : Int)) ∧
  (((0 : Int) ≤ 8 ∧ (0 : Int) ≤ 0 ∧ (0 : Int) ≤ 0 ∧ 0 + 8 ≤ ((8 : Nat) : Int) ∧ 0 + 8 ≤ ((8 : Nat) : Int)) ∧
  (((0 : Int) ≤ 8 ∧ (0 : Int) ≤ 0 ∧ (0 : Int) ≤ 0 ∧ 0 + 8 ≤ ((8 : Nat) : Int) ∧ 0 + 8 ≤ ((8 : Nat) : Int)) ∧
  ret none (S0, mupd (mupd (mcpy (mcpy (mcpy (mcpy (mcpy (mcpy (mcpy M (c1 + 1) 0 (c0 + 1) 0 36) (c1 + 6) 0 (c0 + 6) 0 25) (c1 + 7) 0 (c0 + 7) 0 25) (c1 + 2) 0 (c0 + 2) 0 4) (c1 + 3) 0 (c0 + 3) 0 20) (c1 + 4) 0 (c0 + 4) 0 8) (c1 + 5) 0 (c0 + 5) 0 8) c0 5 ((mcpy (mcpy (mcpy (mcpy (mcpy (mcpy (mcpy M (c1 + 1) 0 (c0 + 1) 0 36) (c1 + 6) 0 (c0 + 6) 0 25) (c1 + 7) 0 (c0 + 7) 0 25) (c1 + 2) 0 (c0 + 2) 0 4) (c1 + 3) 0 (c0 + 3) 0 20) (c1 + 4) 0 (c0 + 4) 0 8) (c1 + 5) 0 (c0 + 5) 0 8) c1 5)) c0 6 ((mupd (mcpy (mcpy (mcpy (mcpy (mcpy (mcpy (mcpy M (c1 + 1) 0 (c0 + 1) 0 36) (c1 + 6) 0 (c0 + 6) 0 25) (c1 + 7) 0 (c0 + 7) 0 25) (c1 + 2) 0 (c0 + 2) 0 4) (c1 + 3) 0 (c0 + 3) 0 20) (c1 + 4) 0 (c0 + 4) 0 8) (c1 + 5) 0 (c0 + 5) 0 8) c0 5 ((mcpy (mcpy (mcpy (mcpy (mcpy (mcpy (mcpy M (c1 + 1) 0 (c0 + 1) 0 36) (c1 + 6) 0 (c0 + 6) 0 25) (c1 + 7) 0 (c0 + 7) 0 25) (c1 + 2) 0 (c0 + 2) 0 4) (c1 + 3) 0 (c0 + 3) 0 20) (c1 + 4) 0 (c0 + 4) 0 8) (c1 + 5) 0 (c0 + 5) 0 8) c1 5)) c1 6)))))))))) :
  K 0 [(0, vr c0), (1, vr c1)] [] (S0, M) := by
  rcases hc with ⟨rfl, rfl⟩ | ⟨rfl, rfl⟩ | ⟨rfl, rfl⟩ | ⟨rfl, rfl⟩ | ⟨rfl, rfl⟩ | ⟨rfl, rfl⟩ <;> exact mQ hK [] 1 0 0 b_C_copyFrom_0 rfl _ _ _ h
set_option maxRecDepth 40000 in
theorem q_C_put_0 {cal : mCal} {lim : Nat × Nat} {scr : Nat × (Nat → Int)} {ret : Option mVal → mHp → Prop} {K : Nat → mLV → List mVal → mHp → Prop} (hK : mClo m_C_put cal lim scr ret K) (c0 : Nat) (x1 : Int) (x2 : Int) (M : mMem) (hc0 : c0 = 1 ∨ c0 = 9) (h :
  mIn x1 36 ((((M (c0 + 1) x1) = x2 →
    ret none (S0, M)) ∧ (¬ ((M (c0 + 1) x1) = x2) →
    (∃ m1, cal 4 [vr c0, vi x1, vi (-1)] (S0, M) (none, (S0, m1)) ∧
    mIn x1 36 ((∃ m2, cal 4 [vr c0, vi x1, vi 1] (S0, mupd m1 (c0 + 1) x1 x2) (none, (S0, m2)) ∧
    ret none (S0, m2)))))))) :
  K 0 [(0, vr c0), (1, vi x1), (2, vi x2)] [] (S0, M) := by
  rcases hc0 with rfl | rfl <;> exact mQ hK [29] 2 0 0 b_C_put_0 rfl _ _ _ h
set_option maxRecDepth 40000 in
theorem q_C_tallyAround_0 {cal : mCal} {lim : Nat × Nat} {scr : Nat × (Nat → Int)} {ret : Option mVal → mHp → Prop} {K : Nat → mLV → List mVal → mHp → Prop} (hK : mClo m_C_tallyAround cal lim scr ret K) (c0 : Nat) (x1 : Int) (x2 : Int) (M : mMem) (hc0 : c0 = 1 ∨ c0 = 9) (h :
  mIn x1 36 ((((jdiv x1 6) ≤ 0 →
    K 46 [(0, vr c0), (1, vi x1), (2, vi x2), (3, vi (M (c0 + 1) x1)), (4, vi (jdiv x1 6)), (5, vi (jrem x1 6))] [] (S0, M)) ∧ (¬ ((jdiv x1 6) ≤ 0) →
    mIn (w32 (x1 - 6)) 36 (mIn (w32 ((w32 ((M (c0 + 1) (w32 (x1 - 6))) * 5)) + (M (c0 + 1) x1))) 25 (mIn (w32 ((w32 ((M (c0 + 1) (w32 (x1 - 6))) * 5)) + (M (c0 + 1) x1))) 25 (K 46 [(0, vr c0), (1, vi x1), (2, vi x2), (3, vi (M (c0 + 1) x1)), (4, vi (jdiv x1 6)), (5, vi (jrem x1 6))] [] (S0, mupd M (c0 + 6) (w32 ((w32 ((M (c0 + 1) (w32 (x1 - 6))) * 5)) + (M (c0 + 1) x1))) (w32 ((M (c0 + 6) (w32 ((w32 ((M (c0 + 1) (w32 (x1 - 6))) * 5)) + (M (c0 + 1) x1)))) + x2)))))))))) :
  K 0 [(0, vr c0), (1, vi x1), (2, vi x2)] [] (S0, M) := by
  rcases hc0 with rfl | rfl <;> exact mQ hK [127] 2 0 0 b_C_tallyAround_0 rfl _ _ _ h
set_option maxRecDepth 40000 in
theorem q_C_tallyAround_46 {cal : mCal} {lim : Nat × Nat} {scr : Nat × (Nat → Int)} {ret : Option mVal → mHp → Prop} {K : Nat → mLV → List mVal → mHp → Prop} (hK : mClo m_C_tallyAround cal lim scr ret K) (c0 : Nat) (x1 : Int) (x2 : Int) (x3 : Int) (x4 : Int) (x5 : Int) (M : mMem) (hc0 : c0 = 1 ∨ c0 = 9) (h :
  ((5 ≤ x4 →
    K 74 [(0, vr c0), (1, vi x1), (2, vi x2), (3, vi x3), (5, vi x5)] [] (S0, M)) ∧ (¬ (5 ≤ x4) →
    mIn (w32 (x1 + 6)) 36 (mIn (w32 ((w32 (x3 * 5)) + (M (c0 + 1) (w32 (x1 + 6))))) 25 (mIn (w32 ((w32 (x3 * 5)) + (M (c0 + 1) (w32 (x1 + 6))))) 25 (K 74 [(0, vr c0), (1, vi x1), (2, vi x2), (3, vi x3), (5, vi x5)] [] (S0, mupd M (c0 + 6) (w32 ((w32 (x3 * 5)) + (M (c0 + 1) (w32 (x1 + 6))))) (w32 ((M (c0 + 6) (w32 ((w32 (x3 * 5)) + (M (c0 + 1) (w32 (x1 + 6)))))) + x2))))))))) :
  K 46 [(0, vr c0), (1, vi x1), (2, vi x2), (3, vi x3), (4, vi x4), (5, vi x5)] [] (S0, M) := by
  rcases hc0 with rfl | rfl <;> exact mQ hK [127] 2 1 46 b_C_tallyAround_46 rfl _ _ _ h
set_option maxRecDepth 40000 in
theorem q_C_tallyAround_74 {cal : mCal} {lim : Nat × Nat} {scr : Nat × (Nat → Int)} {ret : Option mVal → mHp → Prop} {K : Nat → mLV → List mVal → mHp → Prop} (hK : mClo m_C_tallyAround cal lim scr ret K) (c0 : Nat) (x1 : Int) (x2 : Int) (x3 : Int) (x5 : Int) (M : mMem) (hc0 : c0 = 1 ∨ c0 = 9) (h :
  ((x5 ≤ 0 →
    K 100 [(0, vr c0), (1, vi x1), (2, vi x2), (3, vi x3), (5, vi x5)] [] (S0, M)) ∧ (¬ (x5 ≤ 0) →
    mIn (w32 (x1 - 1)) 36 (mIn (w32 ((w32 ((M (c0 + 1) (w32 (x1 - 1))) * 5)) + x3)) 25 (mIn (w32 ((w32 ((M (c0 + 1) (w32 (x1 - 1))) * 5)) + x3)) 25 (K 100 [(0, vr c0), (1, vi x1), (2, vi x2), (3, vi x3), (5, vi x5)] [] (S0, mupd M (c0 + 7) (w32 ((w32 ((M (c0 + 1) (w32 (x1 - 1))) * 5)) + x3)) (w32 ((M (c0 + 7) (w32 ((w32 ((M (c0 + 1) (w32 (x1 - 1))) * 5)) + x3))) + x2))))))))) :
  K 74 [(0, vr c0), (1, vi x1), (2, vi x2), (3, vi x3), (5, vi x5)] [] (S0, M) := by
  rcases hc0 with rfl | rfl <;> exact mQ hK [127] 2 2 74 b_C_tallyAround_74 rfl _ _ _ h
set_option maxRecDepth 40000 in
theorem q_C_tallyAround_100 {cal : mCal} {lim : Nat × Nat} {scr : Nat × (Nat → Int)} {ret : Option mVal → mHp → Prop} {K : Nat → mLV → List mVal → mHp → Prop} (hK : mClo m_C_tallyAround cal lim scr ret K) (c0 : Nat) (x1 : Int) (x2 : Int) (x3 : Int) (x5 : Int) (M : mMem) (hc0 : c0 = 1 ∨ c0 = 9) (h :
  ((5 ≤ x5 →
    ret none (S0, M)) ∧ (¬ (5 ≤ x5) →
    mIn (w32 (x1 + 1)) 36 (mIn (w32 ((w32 (x3 * 5)) + (M (c0 + 1) (w32 (x1 + 1))))) 25 (mIn (w32 ((w32 (x3 * 5)) + (M (c0 + 1) (w32 (x1 + 1))))) 25 (ret none (S0, mupd M (c0 + 7) (w32 ((w32 (x3 * 5)) + (M (c0 + 1) (w32 (x1 + 1))))) (w32 ((M (c0 + 7) (w32 ((w32 (x3 * 5)) + (M (c0 + 1) (w32 (x1 + 1)))))) + x2))))))))) :
  K 100 [(0, vr c0), (1, vi x1), (2, vi x2), (3, vi x3), (5, vi x5)] [] (S0, M) := by
  rcases hc0 with rfl | rfl <;> exact mQ hK [127] 2 3 100 b_C_tallyAround_100 rfl _ _ _ h
set_option maxRecDepth 40000 in
theorem q_C_canTake_0 {cal : mCal} {lim : Nat × Nat} {scr : Nat × (Nat → Int)} {ret : Option mVal → mHp → Prop} {K : Nat → mLV → List mVal → mHp → Prop} (hK : mClo m_C_canTake cal lim scr ret K) (c0 : Nat) (x1 : Int) (x2 : Int) (M : mMem) (hc0 : c0 = 1 ∨ c0 = 9) (h :
  mIn x1 36 ((((M (c0 + 1) x1) ≠ 0 →
    ret (some (vi 0)) (S0, M)) ∧ (¬ ((M (c0 + 1) x1) ≠ 0) →
    mIn x2 4 ((((M (c0 + 2) x2) ≤ 0 →
      ret (some (vi 0)) (S0, M)) ∧ (¬ ((M (c0 + 2) x2) ≤ 0) →
      ret (some (vi 1)) (S0, M)))))))) :
  K 0 [(0, vr c0), (1, vi x1), (2, vi x2)] [] (S0, M) := by
  rcases hc0 with rfl | rfl <;> exact mQ hK [22, 23] 3 0 0 b_C_canTake_0 rfl _ _ _ h
set_option maxRecDepth 40000 in
theorem q_C_take_0 {cal : mCal} {lim : Nat × Nat} {scr : Nat × (Nat → Int)} {ret : Option mVal → mHp → Prop} {K : Nat → mLV → List mVal → mHp → Prop} (hK : mClo m_C_take cal lim scr ret K) (c0 : Nat) (x1 : Int) (x2 : Int) (M : mMem) (hc0 : c0 = 1 ∨ c0 = 9) (h :
  (∃ m1, cal 3 [vr c0, vi x1, vi x2] (S0, M) (none, (S0, m1)) ∧
  mIn x2 4 (mIn x2 4 (ret none (S0, mupd m1 (c0 + 2) x2 (w32 ((m1 (c0 + 2) x2) - 1))))))) :
  K 0 [(0, vr c0), (1, vi x1), (2, vi x2)] [] (S0, M) := by
  rcases hc0 with rfl | rfl <;> exact mQ hK [] 1 0 0 b_C_take_0 rfl _ _ _ h
set_option maxRecDepth 40000 in
theorem q_C_takeBack_0 {cal : mCal} {lim : Nat × Nat} {scr : Nat × (Nat → Int)} {ret : Option mVal → mHp → Prop} {K : Nat → mLV → List mVal → mHp → Prop} (hK : mClo m_C_takeBack cal lim scr ret K) (c0 : Nat) (x1 : Int) (M : mMem) (hc0 : c0 = 1 ∨ c0 = 9) (h :
  mIn x1 36 (mIn (M (c0 + 1) x1) 4 (mIn (M (c0 + 1) x1) 4 ((∃ m1, cal 3 [vr c0, vi x1, vi 0] (S0, mupd M (c0 + 2) (M (c0 + 1) x1) (w32 ((M (c0 + 2) (M (c0 + 1) x1)) + 1))) (none, (S0, m1)) ∧
  ret none (S0, m1)))))) :
  K 0 [(0, vr c0), (1, vi x1)] [] (S0, M) := by
  rcases hc0 with rfl | rfl <;> exact mQ hK [] 1 0 0 b_C_takeBack_0 rfl _ _ _ h
set_option maxRecDepth 40000 in
theorem q_C_takePlanned_0 {cal : mCal} {lim : Nat × Nat} {scr : Nat × (Nat → Int)} {ret : Option mVal → mHp → Prop} {K : Nat → mLV → List mVal → mHp → Prop} (hK : mClo m_C_takePlanned cal lim scr ret K) (c0 : Nat) (x1 : Int) (M : mMem) (hc0 : c0 = 1 ∨ c0 = 9) (h :
  mIn x1 8 (mIn x1 8 ((∃ v2 m1, cal 5 [vr c0, vi (M (c0 + 4) x1), vi (M (c0 + 5) x1)] (S0, M) (some (vi v2), (S0, m1)) ∧
  ((v2 = 0 →
    (((m1 c0 8) ≠ (-4) →
      ret none (S0, m1)) ∧ (¬ ((m1 c0 8) ≠ (-4)) →
      ret none (S0, mupd m1 c0 8 x1)))) ∧ (¬ (v2 = 0) →
    mIn x1 8 (mIn x1 8 ((∃ m3, cal 6 [vr c0, vi (m1 (c0 + 4) x1), vi (m1 (c0 + 5) x1)] (S0, m1) (none, (S0, m3)) ∧
    ret none (S0, mupd m3 c0 7 (w32 ((m3 c0 7) + 1)))))))))))) :
  K 0 [(0, vr c0), (1, vi x1)] [] (S0, M) := by
  rcases hc0 with rfl | rfl <;> exact mQ hK [48, 62] 3 0 0 b_C_takePlanned_0 rfl _ _ _ h
set_option maxRecDepth 40000 in
theorem q_C_addLaw_0 {cal : mCal} {lim : Nat × Nat} {scr : Nat × (Nat → Int)} {ret : Option mVal → mHp → Prop} {K : Nat → mLV → List mVal → mHp → Prop} (hK : mClo m_C_addLaw cal lim scr ret K) (c0 : Nat) (x1 : Int) (x2 : Int) (x3 : Int) (x4 : Int) (M : mMem) (hc0 : c0 = 1 ∨ c0 = 9) (h :
  mIn (w32 ((M c0 5) * 4)) 20 (mIn (w32 ((w32 ((M c0 5) * 4)) + 1)) 20 (mIn (w32 ((w32 ((M c0 5) * 4)) + 2)) 20 (mIn (w32 ((w32 ((M c0 5) * 4)) + 3)) 20 (ret none (S0, mupd (mupd (mupd (mupd (mupd M (c0 + 3) (w32 ((M c0 5) * 4)) x1) (c0 + 3) (w32 ((w32 ((M c0 5) * 4)) + 1)) x2) (c0 + 3) (w32 ((w32 ((M c0 5) * 4)) + 2)) x3) (c0 + 3) (w32 ((w32 ((M c0 5) * 4)) + 3)) x4) c0 5 (w32 (((mupd (mupd (mupd (mupd M (c0 + 3) (w32 ((M c0 5) * 4)) x1) (c0 + 3) (w32 ((w32 ((M c0 5) * 4)) + 1)) x2) (c0 + 3) (w32 ((w32 ((M c0 5) * 4)) + 2)) x3) (c0 + 3) (w32 ((w32 ((M c0 5) * 4)) + 3)) x4) c0 5) + 1)))))))) :
  K 0 [(0, vr c0), (1, vi x1), (2, vi x2), (3, vi x3), (4, vi x4)] [] (S0, M) := by
  rcases hc0 with rfl | rfl <;> exact mQ hK [] 1 0 0 b_C_addLaw_0 rfl _ _ _ h
set_option maxRecDepth 40000 in
theorem q_C_reads_0 {cal : mCal} {lim : Nat × Nat} {scr : Nat × (Nat → Int)} {ret : Option mVal → mHp → Prop} {K : Nat → mLV → List mVal → mHp → Prop} (hK : mClo m_C_reads cal lim scr ret K) (c0 : Nat) (x1 : Int) (M : mMem) (hc0 : c0 = 1 ∨ c0 = 9) (h :
  mIn (w32 ((w32 (x1 * 4)) + 1)) 20 (mIn (w32 ((w32 (x1 * 4)) + 2)) 20 (mIn (w32 (x1 * 4)) 20 (mIn (w32 ((w32 ((M (c0 + 3) (w32 ((w32 (x1 * 4)) + 1))) * 5)) + (M (c0 + 3) (w32 ((w32 (x1 * 4)) + 2))))) 25 (mIn (w32 ((w32 ((M (c0 + 3) (w32 ((w32 (x1 * 4)) + 2))) * 5)) + (M (c0 + 3) (w32 ((w32 (x1 * 4)) + 1))))) 25 (mIn (w32 ((w32 ((M (c0 + 3) (w32 ((w32 (x1 * 4)) + 1))) * 5)) + (M (c0 + 3) (w32 ((w32 (x1 * 4)) + 2))))) 25 ((∃ v2 m1, cal 12 [vi (M (c0 + 3) (w32 (x1 * 4))), vi (M (c0 + 6) (w32 ((w32 ((M (c0 + 3) (w32 ((w32 (x1 * 4)) + 1))) * 5)) + (M (c0 + 3) (w32 ((w32 (x1 * 4)) + 2)))))), vi (M (c0 + 6) (w32 ((w32 ((M (c0 + 3) (w32 ((w32 (x1 * 4)) + 2))) * 5)) + (M (c0 + 3) (w32 ((w32 (x1 * 4)) + 1)))))), vi (M (c0 + 7) (w32 ((w32 ((M (c0 + 3) (w32 ((w32 (x1 * 4)) + 1))) * 5)) + (M (c0 + 3) (w32 ((w32 (x1 * 4)) + 2))))))] (S0, M) (some (vi v2), (S0, m1)) ∧
  ret (some (vi v2)) (S0, m1))))))))) :
  K 0 [(0, vr c0), (1, vi x1)] [] (S0, M) := by
  rcases hc0 with rfl | rfl <;> exact mQ hK [] 1 0 0 b_C_reads_0 rfl _ _ _ h
set_option maxRecDepth 40000 in
theorem q_C_readsByBack_0 {cal : mCal} {lim : Nat × Nat} {scr : Nat × (Nat → Int)} {ret : Option mVal → mHp → Prop} {K : Nat → mLV → List mVal → mHp → Prop} (hK : mClo m_C_readsByBack cal lim scr ret K) (c0 : Nat) (x1 : Int) (M : mMem) (hc0 : c0 = 1 ∨ c0 = 9) (h :
  mIn (w32 ((w32 (x1 * 4)) + 1)) 20 (mIn (w32 ((w32 (x1 * 4)) + 2)) 20 (mIn (w32 (x1 * 4)) 20 (mIn (w32 ((w32 ((M (c0 + 3) (w32 ((w32 (x1 * 4)) + 2))) * 5)) + (M (c0 + 3) (w32 ((w32 (x1 * 4)) + 1))))) 25 (mIn (w32 ((w32 ((M (c0 + 3) (w32 ((w32 (x1 * 4)) + 1))) * 5)) + (M (c0 + 3) (w32 ((w32 (x1 * 4)) + 2))))) 25 (mIn (w32 ((w32 ((M (c0 + 3) (w32 ((w32 (x1 * 4)) + 1))) * 5)) + (M (c0 + 3) (w32 ((w32 (x1 * 4)) + 2))))) 25 ((∃ v2 m1, cal 12 [vi (M (c0 + 3) (w32 (x1 * 4))), vi (M (c0 + 6) (w32 ((w32 ((M (c0 + 3) (w32 ((w32 (x1 * 4)) + 2))) * 5)) + (M (c0 + 3) (w32 ((w32 (x1 * 4)) + 1)))))), vi (M (c0 + 6) (w32 ((w32 ((M (c0 + 3) (w32 ((w32 (x1 * 4)) + 1))) * 5)) + (M (c0 + 3) (w32 ((w32 (x1 * 4)) + 2)))))), vi (M (c0 + 7) (w32 ((w32 ((M (c0 + 3) (w32 ((w32 (x1 * 4)) + 1))) * 5)) + (M (c0 + 3) (w32 ((w32 (x1 * 4)) + 2))))))] (S0, M) (some (vi v2), (S0, m1)) ∧
  ret (some (vi v2)) (S0, m1))))))))) :
  K 0 [(0, vr c0), (1, vi x1)] [] (S0, M) := by
  rcases hc0 with rfl | rfl <;> exact mQ hK [] 1 0 0 b_C_readsByBack_0 rfl _ _ _ h
set_option maxRecDepth 40000 in
theorem q_C_readsAs_0 {cal : mCal} {lim : Nat × Nat} {scr : Nat × (Nat → Int)} {ret : Option mVal → mHp → Prop} {K : Nat → mLV → List mVal → mHp → Prop} (hK : mClo m_C_readsAs cal lim scr ret K) (x0 : Int) (x1 : Int) (x2 : Int) (x3 : Int) (M : mMem) (h :
  (((x0 = ((0 : Nat) : Int) →
    ret (some (vi x1)) (S0, M)) ∧ 
  (x0 = ((1 : Nat) : Int) →
    ret (some (vi x2)) (S0, M)) ∧ 
  (x0 = ((2 : Nat) : Int) →
    ret (some (vi x3)) (S0, M)) ∧ True) ∧ ((x0 < 0 ∨ ((3 : Nat) : Int) ≤ x0) →
    ret (some (vi (w32 (x1 + x3)))) (S0, M)))) :
  K 0 [(0, vi x0), (1, vi x1), (2, vi x2), (3, vi x3)] [] (S0, M) := by
  exact mQ hK [28, 30, 32, 34] 5 0 0 b_C_readsAs_0 rfl _ _ _ h
set_option maxRecDepth 40000 in
theorem q_C_worth_0 {cal : mCal} {lim : Nat × Nat} {scr : Nat × (Nat → Int)} {ret : Option mVal → mHp → Prop} {K : Nat → mLV → List mVal → mHp → Prop} (hK : mClo m_C_worth cal lim scr ret K) (c0 : Nat) (M : mMem) (hc0 : c0 = 1 ∨ c0 = 9) (h :
  K 4 [(0, vr c0), (1, vi 0), (2, vi 0)] [] (S0, M)) :
  K 0 [(0, vr c0)] [] (S0, M) := by
  rcases hc0 with rfl | rfl <;> exact mQ hK [37] 2 0 0 b_C_worth_0 rfl _ _ _ h
set_option maxRecDepth 40000 in
theorem q_C_worth_4 {cal : mCal} {lim : Nat × Nat} {scr : Nat × (Nat → Int)} {ret : Option mVal → mHp → Prop} {K : Nat → mLV → List mVal → mHp → Prop} (hK : mClo m_C_worth cal lim scr ret K) (c0 : Nat) (x1 : Int) (x2 : Int) (M : mMem) (hc0 : c0 = 1 ∨ c0 = 9) (h :
  (((M c0 5) ≤ x2 →
    ret (some (vi x1)) (S0, M)) ∧ (¬ ((M c0 5) ≤ x2) →
    mIn (w32 ((w32 (x2 * 4)) + 3)) 20 ((∃ v2 m1, cal 10 [vr c0, vi x2] (S0, M) (some (vi v2), (S0, m1)) ∧
    K 4 [(0, vr c0), (1, vi (w32 (x1 + (w32 ((M (c0 + 3) (w32 ((w32 (x2 * 4)) + 3))) * v2))))), (2, vi (w32 (x2 + 1)))] [] (S0, m1)))))) :
  K 4 [(0, vr c0), (1, vi x1), (2, vi x2)] [] (S0, M) := by
  rcases hc0 with rfl | rfl <;> exact mQ hK [37] 2 1 4 b_C_worth_4 rfl _ _ _ h
set_option maxRecDepth 40000 in
theorem q_C_heldBits_0 {cal : mCal} {lim : Nat × Nat} {scr : Nat × (Nat → Int)} {ret : Option mVal → mHp → Prop} {K : Nat → mLV → List mVal → mHp → Prop} (hK : mClo m_C_heldBits cal lim scr ret K) (c0 : Nat) (M : mMem) (hc0 : c0 = 1 ∨ c0 = 9) (h :
  K 4 [(0, vr c0), (1, vi 0), (2, vi 0)] [] (S0, M)) :
  K 0 [(0, vr c0)] [] (S0, M) := by
  rcases hc0 with rfl | rfl <;> exact mQ hK [26, 32] 3 0 0 b_C_heldBits_0 rfl _ _ _ h
set_option maxRecDepth 40000 in
theorem q_C_heldBits_4 {cal : mCal} {lim : Nat × Nat} {scr : Nat × (Nat → Int)} {ret : Option mVal → mHp → Prop} {K : Nat → mLV → List mVal → mHp → Prop} (hK : mClo m_C_heldBits cal lim scr ret K) (c0 : Nat) (x1 : Int) (x2 : Int) (M : mMem) (hc0 : c0 = 1 ∨ c0 = 9) (h :
  (((M c0 5) ≤ x2 →
    ret (some (vi x1)) (S0, M)) ∧ (¬ ((M c0 5) ≤ x2) →
    (∃ v2 m1, cal 10 [vr c0, vi x2] (S0, M) (some (vi v2), (S0, m1)) ∧
    ((v2 ≤ 0 →
      K 4 [(0, vr c0), (1, vi x1), (2, vi (w32 (x2 + 1)))] [] (S0, m1)) ∧ (¬ (v2 ≤ 0) →
      K 4 [(0, vr c0), (1, vi (jor x1 (jshl 1 x2))), (2, vi (w32 (x2 + 1)))] [] (S0, m1))))))) :
  K 4 [(0, vr c0), (1, vi x1), (2, vi x2)] [] (S0, M) := by
  rcases hc0 with rfl | rfl <;> exact mQ hK [26, 32] 3 1 4 b_C_heldBits_4 rfl _ _ _ h
set_option maxRecDepth 40000 in
theorem q_C_cellsOf_0 {cal : mCal} {lim : Nat × Nat} {scr : Nat × (Nat → Int)} {ret : Option mVal → mHp → Prop} {K : Nat → mLV → List mVal → mHp → Prop} (hK : mClo m_C_cellsOf cal lim scr ret K) (c0 : Nat) (x1 : Int) (M : mMem) (hc0 : c0 = 1 ∨ c0 = 9) (h :
  K 4 [(0, vr c0), (1, vi x1), (2, vi 0), (3, vi 0)] [] (S0, M)) :
  K 0 [(0, vr c0), (1, vi x1)] [] (S0, M) := by
  rcases hc0 with rfl | rfl <;> exact mQ hK [23, 29] 3 0 0 b_C_cellsOf_0 rfl _ _ _ h
set_option maxRecDepth 40000 in
theorem q_C_cellsOf_4 {cal : mCal} {lim : Nat × Nat} {scr : Nat × (Nat → Int)} {ret : Option mVal → mHp → Prop} {K : Nat → mLV → List mVal → mHp → Prop} (hK : mClo m_C_cellsOf cal lim scr ret K) (c0 : Nat) (x1 : Int) (x2 : Int) (x3 : Int) (M : mMem) (hc0 : c0 = 1 ∨ c0 = 9) (h :
  ((36 ≤ x3 →
    ret (some (vi x2)) (S0, M)) ∧ (¬ (36 ≤ x3) →
    mIn x3 36 ((((M (c0 + 1) x3) ≠ x1 →
      K 4 [(0, vr c0), (1, vi x1), (2, vi x2), (3, vi (w32 (x3 + 1)))] [] (S0, M)) ∧ (¬ ((M (c0 + 1) x3) ≠ x1) →
      K 4 [(0, vr c0), (1, vi x1), (2, vi (w32 (x2 + 1))), (3, vi (w32 (x3 + 1)))] [] (S0, M))))))) :
  K 4 [(0, vr c0), (1, vi x1), (2, vi x2), (3, vi x3)] [] (S0, M) := by
  rcases hc0 with rfl | rfl <;> exact mQ hK [23, 29] 3 1 4 b_C_cellsOf_4 rfl _ _ _ h
set_option maxRecDepth 40000 in
theorem q_C_canRun_0 {cal : mCal} {lim : Nat × Nat} {scr : Nat × (Nat → Int)} {ret : Option mVal → mHp → Prop} {K : Nat → mLV → List mVal → mHp → Prop} (hK : mClo m_C_canRun cal lim scr ret K) (c0 : Nat) (x1 : Int) (M : mMem) (hc0 : c0 = 1 ∨ c0 = 9) (h :
  mIn x1 36 ((((M (c0 + 1) x1) ≠ 1 →
    ret (some (vi 0)) (S0, M)) ∧ (¬ ((M (c0 + 1) x1) ≠ 1) →
    ((5 ≤ (jdiv x1 6) →
      ret (some (vi 0)) (S0, M)) ∧ (¬ (5 ≤ (jdiv x1 6)) →
      mIn (w32 (x1 + 6)) 36 ((((M (c0 + 1) (w32 (x1 + 6))) ≠ 0 →
        ret (some (vi 0)) (S0, M)) ∧ (¬ ((M (c0 + 1) (w32 (x1 + 6))) ≠ 0) →
        ret (some (vi 1)) (S0, M)))))))))) :
  K 0 [(0, vr c0), (1, vi x1)] [] (S0, M) := by
  rcases hc0 with rfl | rfl <;> exact mQ hK [34, 35] 3 0 0 b_C_canRun_0 rfl _ _ _ h
set_option maxRecDepth 40000 in
theorem q_C_runningCells_0 {cal : mCal} {lim : Nat × Nat} {scr : Nat × (Nat → Int)} {ret : Option mVal → mHp → Prop} {K : Nat → mLV → List mVal → mHp → Prop} (hK : mClo m_C_runningCells cal lim scr ret K) (c0 : Nat) (M : mMem) (hc0 : c0 = 1 ∨ c0 = 9) (h :
  ret (some (vi (M (c0 + 6) 5))) (S0, M)) :
  K 0 [(0, vr c0)] [] (S0, M) := by
  rcases hc0 with rfl | rfl <;> exact mQ hK [] 1 0 0 b_C_runningCells_0 rfl _ _ _ h
set_option maxRecDepth 40000 in
theorem q_C_exchange_0 {cal : mCal} {lim : Nat × Nat} {scr : Nat × (Nat → Int)} {ret : Option mVal → mHp → Prop} {K : Nat → mLV → List mVal → mHp → Prop} (hK : mClo m_C_exchange cal lim scr ret K) (c0 : Nat) (x1 : Int) (x2 : Int) (M : mMem) (hc0 : c0 = 1 ∨ c0 = 9) (h :
  K 2 [(0, vr c0), (1, vi x1), (2, vi x2), (3, vi 0)] [] (S0, M)) :
  K 0 [(0, vr c0), (1, vi x1), (2, vi x2)] [] (S0, M) := by
  rcases hc0 with rfl | rfl <;> exact mQ hK [27, 43, 49] 4 0 0 b_C_exchange_0 rfl _ _ _ h
set_option maxRecDepth 40000 in
theorem q_C_exchange_2 {cal : mCal} {lim : Nat × Nat} {scr : Nat × (Nat → Int)} {ret : Option mVal → mHp → Prop} {K : Nat → mLV → List mVal → mHp → Prop} (hK : mClo m_C_exchange cal lim scr ret K) (c0 : Nat) (x1 : Int) (x2 : Int) (x3 : Int) (M : mMem) (hc0 : c0 = 1 ∨ c0 = 9) (h :
  ((36 ≤ x3 →
    ret none (S0, M)) ∧ (¬ (36 ≤ x3) →
    mIn x3 36 ((((M (c0 + 1) x3) ≠ x1 →
      mIn x3 36 ((((M (c0 + 1) x3) ≠ x2 →
        K 2 [(0, vr c0), (1, vi x1), (2, vi x2), (3, vi (w32 (x3 + 1)))] [] (S0, M)) ∧ (¬ ((M (c0 + 1) x3) ≠ x2) →
        (∃ m1, cal 3 [vr c0, vi x3, vi x1] (S0, M) (none, (S0, m1)) ∧
        K 2 [(0, vr c0), (1, vi x1), (2, vi x2), (3, vi (w32 (x3 + 1)))] [] (S0, m1)))))) ∧ (¬ ((M (c0 + 1) x3) ≠ x1) →
      (∃ m2, cal 3 [vr c0, vi x3, vi x2] (S0, M) (none, (S0, m2)) ∧
      K 2 [(0, vr c0), (1, vi x1), (2, vi x2), (3, vi (w32 (x3 + 1)))] [] (S0, m2)))))))) :
  K 2 [(0, vr c0), (1, vi x1), (2, vi x2), (3, vi x3)] [] (S0, M) := by
  rcases hc0 with rfl | rfl <;> exact mQ hK [27, 43, 49] 4 1 2 b_C_exchange_2 rfl _ _ _ h
set_option maxRecDepth 40000 in
theorem q_C_turnRow_0 {cal : mCal} {lim : Nat × Nat} {scr : Nat × (Nat → Int)} {ret : Option mVal → mHp → Prop} {K : Nat → mLV → List mVal → mHp → Prop} (hK : mClo m_C_turnRow cal lim scr ret K) (c0 : Nat) (x1 : Int) (M : mMem) (hc0 : c0 = 1 ∨ c0 = 9) (h :
  K 2 [(0, vr c0), (1, vi x1), (2, vi 0)] [] (S0, M)) :
  K 0 [(0, vr c0), (1, vi x1)] [] (S0, M) := by
  rcases hc0 with rfl | rfl <;> exact mQ hK [58] 2 0 0 b_C_turnRow_0 rfl _ _ _ h
set_option maxRecDepth 40000 in
theorem q_C_turnRow_2 {cal : mCal} {lim : Nat × Nat} {scr : Nat × (Nat → Int)} {ret : Option mVal → mHp → Prop} {K : Nat → mLV → List mVal → mHp → Prop} (hK : mClo m_C_turnRow cal lim scr ret K) (c0 : Nat) (x1 : Int) (x2 : Int) (M : mMem) (hc0 : c0 = 1 ∨ c0 = 9) (h :
  ((3 ≤ x2 →
    ret none (S0, M)) ∧ (¬ (3 ≤ x2) →
    mIn (w32 ((w32 (x2 * 6)) + x1)) 36 (mIn (w32 ((w32 ((w32 (5 - x2)) * 6)) + x1)) 36 ((∃ m1, cal 3 [vr c0, vi (w32 ((w32 (x2 * 6)) + x1)), vi (M (c0 + 1) (w32 ((w32 ((w32 (5 - x2)) * 6)) + x1)))] (S0, M) (none, (S0, m1)) ∧
    (∃ m2, cal 3 [vr c0, vi (w32 ((w32 ((w32 (5 - x2)) * 6)) + x1)), vi (M (c0 + 1) (w32 ((w32 (x2 * 6)) + x1)))] (S0, m1) (none, (S0, m2)) ∧
    K 2 [(0, vr c0), (1, vi x1), (2, vi (w32 (x2 + 1)))] [] (S0, m2)))))))) :
  K 2 [(0, vr c0), (1, vi x1), (2, vi x2)] [] (S0, M) := by
  rcases hc0 with rfl | rfl <;> exact mQ hK [58] 2 1 2 b_C_turnRow_2 rfl _ _ _ h
set_option maxRecDepth 40000 in
theorem q_O_begin_0 {cal : mCal} {lim : Nat × Nat} {scr : Nat × (Nat → Int)} {ret : Option mVal → mHp → Prop} {K : Nat → mLV → List mVal → mHp → Prop} (hK : mClo m_O_begin cal lim scr ret K) (x1 : Int) (M : mMem) (h :
  ret none (S0, mupd (mupd M 37 0 (-4)) 37 1 x1)) :
  K 0 [(0, vr 37), (1, vi x1)] [] (S0, M) := by
  exact mQ hK [] 1 0 0 b_O_begin_0 rfl _ _ _ h
set_option maxRecDepth 40000 in
theorem q_O_offer_0 {cal : mCal} {lim : Nat × Nat} {scr : Nat × (Nat → Int)} {ret : Option mVal → mHp → Prop} {K : Nat → mLV → List mVal → mHp → Prop} (hK : mClo m_O_offer cal lim scr ret K) (x1 : Int) (x2 : Int) (M : mMem) (h :
  ((x2 ≤ (M 37 1) →
    ret none (S0, M)) ∧ (¬ (x2 ≤ (M 37 1)) →
    ret none (S0, mupd (mupd M 37 0 x1) 37 1 x2)))) :
  K 0 [(0, vr 37), (1, vi x1), (2, vi x2)] [] (S0, M) := by
  exact mQ hK [18] 2 0 0 b_O_offer_0 rfl _ _ _ h
set_option maxRecDepth 40000 in
theorem q_O_told_0 {cal : mCal} {lim : Nat × Nat} {scr : Nat × (Nat → Int)} {ret : Option mVal → mHp → Prop} {K : Nat → mLV → List mVal → mHp → Prop} (hK : mClo m_O_told cal lim scr ret K) (x1 : Int) (M : mMem) (h :
  (((M 37 0) = (-4) →
    ret (some (vi (M 37 0))) (S0, M)) ∧ (¬ ((M 37 0) = (-4)) →
    ((x1 ≠ 0 →
      ret (some (vi (M 37 1))) (S0, M)) ∧ (¬ (x1 ≠ 0) →
      ret (some (vi (M 37 0))) (S0, M)))))) :
  K 0 [(0, vr 37), (1, vi x1)] [] (S0, M) := by
  exact mQ hK [13, 20, 24] 4 0 0 b_O_told_0 rfl _ _ _ h
set_option maxRecDepth 40000 in
theorem q_S_renew_0 {cal : mCal} {lim : Nat × Nat} {scr : Nat × (Nat → Int)} {ret : Option mVal → mHp → Prop} {K : Nat → mLV → List mVal → mHp → Prop} (hK : mClo m_S_renew cal lim scr ret K) (c0 : Nat) (x1 : Int) (x2 : Int) (M : mMem) (hc0 : c0 = 45 ∨ c0 = 47 ∨ c0 = 49 ∨ c0 = 51) (h :
  (∃ m1, cal 190 [vr (c0 + 1), vi 0] (S0, M) (none, (S0, m1)) ∧
  ret none (S0, mupd (mupd m1 c0 1 x1) c0 2 x2))) :
  K 0 [(0, vr c0), (1, vi x1), (2, vi x2)] [] (S0, M) := by
  rcases hc0 with rfl | rfl | rfl | rfl <;> exact mQ hK [] 1 0 0 b_S_renew_0 rfl _ _ _ h
set_option maxRecDepth 40000 in
theorem q_S_set_0 {cal : mCal} {lim : Nat × Nat} {scr : Nat × (Nat → Int)} {ret : Option mVal → mHp → Prop} {K : Nat → mLV → List mVal → mHp → Prop} (hK : mClo m_S_set cal lim scr ret K) (c0 : Nat) (x1 : Int) (x2 : Int) (M : mMem) (hc0 : c0 = 45 ∨ c0 = 47 ∨ c0 = 49 ∨ c0 = 51) (h :
  (((M c0 1) ≠ 0 →
    (((M c0 1) ≠ 1 →
      mIn x1 40 (ret none (S0, mupd M (c0 + 1) x1 x2))) ∧ (¬ ((M c0 1) ≠ 1) →
      mIn x1 40 (ret none (S0, mupd M (c0 + 1) x1 (w16 x2)))))) ∧ (¬ ((M c0 1) ≠ 0) →
    mIn x1 40 (ret none (S0, mupd M (c0 + 1) x1 (w8 x2)))))) :
  K 0 [(0, vr c0), (1, vi x1), (2, vi x2)] [] (S0, M) := by
  rcases hc0 with rfl | rfl | rfl | rfl <;> exact mQ hK [18, 37, 44] 4 0 0 b_S_set_0 rfl _ _ _ h
set_option maxRecDepth 40000 in
theorem q_S_faultAsOf_0 {cal : mCal} {lim : Nat × Nat} {scr : Nat × (Nat → Int)} {ret : Option mVal → mHp → Prop} {K : Nat → mLV → List mVal → mHp → Prop} (hK : mClo m_S_faultAsOf cal lim scr ret K) (c0 : Nat) (x1 : Int) (x2 : Int) (x3 : Int) (M : mMem) (hc0 : c0 = 45 ∨ c0 = 47 ∨ c0 = 49 ∨ c0 = 51) (h :
  (((M c0 2) < 0 →
    (∃ v2 m1, cal 29 [vr c0, vi x2, vi x3] (S0, M) (some (vi v2), (S0, m1)) ∧
    ret (some (vi v2)) (S0, m1))) ∧ (¬ ((M c0 2) < 0) →
    (((M c0 1) = x1 →
      (∃ v4 m3, cal 29 [vr c0, vi x2, vi x3] (S0, M) (some (vi v4), (S0, m3)) ∧
      ret (some (vi v4)) (S0, m3))) ∧ (¬ ((M c0 1) = x1) →
      ret (some (vi 3)) (S0, M)))))) :
  K 0 [(0, vr c0), (1, vi x1), (2, vi x2), (3, vi x3)] [] (S0, M) := by
  rcases hc0 with rfl | rfl | rfl | rfl <;> exact mQ hK [19, 25] 3 0 0 b_S_faultAsOf_0 rfl _ _ _ h
set_option maxRecDepth 40000 in
theorem q_S_faultAt_0 {cal : mCal} {lim : Nat × Nat} {scr : Nat × (Nat → Int)} {ret : Option mVal → mHp → Prop} {K : Nat → mLV → List mVal → mHp → Prop} (hK : mClo m_S_faultAt cal lim scr ret K) (c0 : Nat) (x1 : Int) (x2 : Int) (M : mMem) (hc0 : c0 = 45 ∨ c0 = 47 ∨ c0 = 49 ∨ c0 = 51) (h :
  ((0 ≤ (M c0 2) →
    ((x1 < 0 →
      ret (some (vi 2)) (S0, M)) ∧ (¬ (x1 < 0) →
      ((x1 ≤ (w32 ((M c0 2) - x2)) →
        ret (some (vi 0)) (S0, M)) ∧ (¬ (x1 ≤ (w32 ((M c0 2) - x2))) →
        ret (some (vi 2)) (S0, M)))))) ∧ (¬ (0 ≤ (M c0 2)) →
    ret (some (vi 1)) (S0, M)))) :
  K 0 [(0, vr c0), (1, vi x1), (2, vi x2)] [] (S0, M) := by
  rcases hc0 with rfl | rfl | rfl | rfl <;> exact mQ hK [9, 23, 27, 28] 5 0 0 b_S_faultAt_0 rfl _ _ _ h
set_option maxRecDepth 40000 in
theorem q_T_tell_0 {cal : mCal} {lim : Nat × Nat} {scr : Nat × (Nat → Int)} {ret : Option mVal → mHp → Prop} {K : Nat → mLV → List mVal → mHp → Prop} (hK : mClo m_T_tell cal lim scr ret K)  (M : mMem) (h :
  (∃ m1, cal 1 [vr 9] (S0, M) (none, (S0, m1)) ∧
  K 33 [(0, vr 35), (1, vr 9), (2, vi 0), (3, vi 0)] [] (S0, mupd (mupd (mupd (mupd (mupd m1 35 2 0) 35 3 0) 35 4 0) 35 8 0) 35 9 0))) :
  K 0 [(0, vr 35), (1, vr 9)] [] (S0, M) := by
  exact mQ hK [61, 75] 3 0 0 b_T_tell_0 rfl _ _ _ h
set_option maxRecDepth 40000 in
theorem q_T_tell_33 {cal : mCal} {lim : Nat × Nat} {scr : Nat × (Nat → Int)} {ret : Option mVal → mHp → Prop} {K : Nat → mLV → List mVal → mHp → Prop} (hK : mClo m_T_tell cal lim scr ret K) (x2 : Int) (x3 : Int) (M : mMem) (h :
  ((160 < x3 →
    ret (some (vi x2)) (S0, M)) ∧ (¬ (160 < x3) →
    (∃ m1, cal 33 [vr 35] (S0, M) (none, (S0, m1)) ∧
    (((m1 35 2) ≠ 0 →
      ret (some (vi x2)) (S0, m1)) ∧ (¬ ((m1 35 2) ≠ 0) →
      (((m1 35 5) ≠ 0 →
        (∃ m2, cal 36 [vr 35, vr 9] (S0, m1) (none, (S0, m2)) ∧
        K 33 [(0, vr 35), (1, vr 9), (2, vi (w32 (x2 + 1))), (3, vi (w32 (x3 + 1)))] [] (S0, m2))) ∧ (¬ ((m1 35 5) ≠ 0) →
        ret (some (vi x2)) (S0, m1))))))))) :
  K 33 [(0, vr 35), (1, vr 9), (2, vi x2), (3, vi x3)] [] (S0, M) := by
  exact mQ hK [61, 75] 3 1 33 b_T_tell_33 rfl _ _ _ h
set_option maxRecDepth 40000 in
theorem q_T_fail_0 {cal : mCal} {lim : Nat × Nat} {scr : Nat × (Nat → Int)} {ret : Option mVal → mHp → Prop} {K : Nat → mLV → List mVal → mHp → Prop} (hK : mClo m_T_fail cal lim scr ret K) (x1 : Int) (M : mMem) (h :
  (((M 35 2) ≠ 0 →
    ret none (S0, M)) ∧ (¬ ((M 35 2) ≠ 0) →
    ret none (S0, mupd (mupd M 35 2 x1) 35 3 ((mupd M 35 2 x1) 35 6))))) :
  K 0 [(0, vr 35), (1, vi x1)] [] (S0, M) := by
  exact mQ hK [20] 2 0 0 b_T_fail_0 rfl _ _ _ h
set_option maxRecDepth 40000 in
theorem q_T_readToken_0 {cal : mCal} {lim : Nat × Nat} {scr : Nat × (Nat → Int)} {ret : Option mVal → mHp → Prop} {K : Nat → mLV → List mVal → mHp → Prop} (hK : mClo m_T_readToken cal lim scr ret K)  (M : mMem) (h :
  (((M 35 2) = 0 →
    K 8 [(0, vr 35)] [] (S0, M)) ∧ (¬ ((M 35 2) = 0) →
    ret none (S0, M)))) :
  K 0 [(0, vr 35)] [] (S0, M) := by
  exact mQ hK [73, 132, 241, 273, 278] 6 0 0 b_T_readToken_0 rfl _ _ _ h
set_option maxRecDepth 40000 in
theorem q_T_readToken_8 {cal : mCal} {lim : Nat × Nat} {scr : Nat × (Nat → Int)} {ret : Option mVal → mHp → Prop} {K : Nat → mLV → List mVal → mHp → Prop} (hK : mClo m_T_readToken cal lim scr ret K)  (M : mMem) (h :
  (((M 35 1) ≤ (M 35 4) →
    K 46 [(0, vr 35)] [] (S0, M)) ∧ (¬ ((M 35 1) ≤ (M 35 4)) →
    mIn (M 35 4) 160 ((((M 36 (M 35 4)) ≠ 32 →
      K 46 [(0, vr 35)] [] (S0, M)) ∧ (¬ ((M 36 (M 35 4)) ≠ 32) →
      K 8 [(0, vr 35)] [] (S0, mupd M 35 4 (w32 ((M 35 4) + 1))))))))) :
  K 8 [(0, vr 35)] [] (S0, M) := by
  exact mQ hK [73, 132, 241, 273, 278] 6 1 8 b_T_readToken_8 rfl _ _ _ h
set_option maxRecDepth 40000 in
theorem q_T_readToken_46 {cal : mCal} {lim : Nat × Nat} {scr : Nat × (Nat → Int)} {ret : Option mVal → mHp → Prop} {K : Nat → mLV → List mVal → mHp → Prop} (hK : mClo m_T_readToken cal lim scr ret K)  (M : mMem) (h :
  ((((mupd M 35 6 (M 35 4)) 35 4) < ((mupd M 35 6 (M 35 4)) 35 1) →
    mIn ((mupd M 35 6 (M 35 4)) 35 4) 160 ((∃ v2 m1, cal 34 [vi ((mupd M 35 6 (M 35 4)) 36 ((mupd M 35 6 (M 35 4)) 35 4))] (S0, mupd M 35 6 (M 35 4)) (some (vi v2), (S0, m1)) ∧
    ((v2 = 0 →
      mIn (m1 35 4) 160 ((∃ v4 m3, cal 35 [vi (m1 36 (m1 35 4))] (S0, m1) (some (vi v4), (S0, m3)) ∧
      ((v4 = 0 →
        mIn (m3 35 4) 160 ((((m3 36 (m3 35 4)) ≠ 59 →
          (∃ m5, cal 32 [vr 35, vi 1] (S0, m3) (none, (S0, m5)) ∧
          ret none (S0, m5))) ∧ (¬ ((m3 36 (m3 35 4)) ≠ 59) →
          ret none (S0, mupd (mupd m3 35 5 3) 35 4 (w32 (((mupd m3 35 5 3) 35 4) + 1))))))) ∧ (¬ (v4 = 0) →
        K 157 [(0, vr 35)] [] (S0, mupd (mupd m3 35 5 2) 35 7 0)))))) ∧ (¬ (v2 = 0) →
      K 93 [(0, vr 35)] [] (S0, mupd m1 35 5 1)))))) ∧ (¬ (((mupd M 35 6 (M 35 4)) 35 4) < ((mupd M 35 6 (M 35 4)) 35 1)) →
    ret none (S0, mupd (mupd M 35 6 (M 35 4)) 35 5 0)))) :
  K 46 [(0, vr 35)] [] (S0, M) := by
  exact mQ hK [73, 132, 241, 273, 278] 6 2 46 b_T_readToken_46 rfl _ _ _ h
set_option maxRecDepth 40000 in
theorem q_T_readToken_93 {cal : mCal} {lim : Nat × Nat} {scr : Nat × (Nat → Int)} {ret : Option mVal → mHp → Prop} {K : Nat → mLV → List mVal → mHp → Prop} (hK : mClo m_T_readToken cal lim scr ret K)  (M : mMem) (h :
  (((M 35 1) ≤ (M 35 4) →
    ret none (S0, M)) ∧ (¬ ((M 35 1) ≤ (M 35 4)) →
    mIn (M 35 4) 160 ((∃ v2 m1, cal 34 [vi (M 36 (M 35 4))] (S0, M) (some (vi v2), (S0, m1)) ∧
    ((v2 = 0 →
      ret none (S0, m1)) ∧ (¬ (v2 = 0) →
      K 93 [(0, vr 35)] [] (S0, mupd m1 35 4 (w32 ((m1 35 4) + 1)))))))))) :
  K 93 [(0, vr 35)] [] (S0, M) := by
  exact mQ hK [73, 132, 241, 273, 278] 6 4 93 b_T_readToken_93 rfl _ _ _ h
set_option maxRecDepth 40000 in
theorem q_T_readToken_157 {cal : mCal} {lim : Nat × Nat} {scr : Nat × (Nat → Int)} {ret : Option mVal → mHp → Prop} {K : Nat → mLV → List mVal → mHp → Prop} (hK : mClo m_T_readToken cal lim scr ret K)  (M : mMem) (h :
  (((M 35 1) ≤ (M 35 4) →
    K 220 [(0, vr 35)] [] (S0, M)) ∧ (¬ ((M 35 1) ≤ (M 35 4)) →
    mIn (M 35 4) 160 ((∃ v2 m1, cal 35 [vi (M 36 (M 35 4))] (S0, M) (some (vi v2), (S0, m1)) ∧
    ((v2 = 0 →
      K 220 [(0, vr 35)] [] (S0, m1)) ∧ (¬ (v2 = 0) →
      mIn (m1 35 4) 160 (K 157 [(0, vr 35)] [] (S0, mupd (mupd m1 35 7 (w32 ((w32 ((w32 (10 * (m1 35 7))) + (m1 36 (m1 35 4)))) - 48))) 35 4 (w32 (((mupd m1 35 7 (w32 ((w32 ((w32 (10 * (m1 35 7))) + (m1 36 (m1 35 4)))) - 48))) 35 4) + 1))))))))))) :
  K 157 [(0, vr 35)] [] (S0, M) := by
  exact mQ hK [73, 132, 241, 273, 278] 6 6 157 b_T_readToken_157 rfl _ _ _ h
set_option maxRecDepth 40000 in
theorem q_T_readToken_220 {cal : mCal} {lim : Nat × Nat} {scr : Nat × (Nat → Int)} {ret : Option mVal → mHp → Prop} {K : Nat → mLV → List mVal → mHp → Prop} (hK : mClo m_T_readToken cal lim scr ret K)  (M : mMem) (h :
  (((w32 ((M 35 4) - (M 35 6))) ≤ 2 →
    ret none (S0, M)) ∧ (¬ ((w32 ((M 35 4) - (M 35 6))) ≤ 2) →
    (∃ m1, cal 32 [vr 35, vi 1] (S0, M) (none, (S0, m1)) ∧
    ret none (S0, m1))))) :
  K 220 [(0, vr 35)] [] (S0, M) := by
  exact mQ hK [73, 132, 241, 273, 278] 6 7 220 b_T_readToken_220 rfl _ _ _ h
set_option maxRecDepth 40000 in
theorem q_T_isLetter_0 {cal : mCal} {lim : Nat × Nat} {scr : Nat × (Nat → Int)} {ret : Option mVal → mHp → Prop} {K : Nat → mLV → List mVal → mHp → Prop} (hK : mClo m_T_isLetter cal lim scr ret K) (x0 : Int) (M : mMem) (h :
  ((x0 < 97 →
    ret (some (vi 0)) (S0, M)) ∧ (¬ (x0 < 97) →
    ((122 < x0 →
      ret (some (vi 0)) (S0, M)) ∧ (¬ (122 < x0) →
      ret (some (vi 1)) (S0, M)))))) :
  K 0 [(0, vi x0)] [] (S0, M) := by
  exact mQ hK [16, 17] 3 0 0 b_T_isLetter_0 rfl _ _ _ h
set_option maxRecDepth 40000 in
theorem q_T_isFigure_0 {cal : mCal} {lim : Nat × Nat} {scr : Nat × (Nat → Int)} {ret : Option mVal → mHp → Prop} {K : Nat → mLV → List mVal → mHp → Prop} (hK : mClo m_T_isFigure cal lim scr ret K) (x0 : Int) (M : mMem) (h :
  ((x0 < 48 →
    ret (some (vi 0)) (S0, M)) ∧ (¬ (x0 < 48) →
    ((57 < x0 →
      ret (some (vi 0)) (S0, M)) ∧ (¬ (57 < x0) →
      ret (some (vi 1)) (S0, M)))))) :
  K 0 [(0, vi x0)] [] (S0, M) := by
  exact mQ hK [16, 17] 3 0 0 b_T_isFigure_0 rfl _ _ _ h
set_option maxRecDepth 40000 in
theorem q_T_readLine_0 {cal : mCal} {lim : Nat × Nat} {scr : Nat × (Nat → Int)} {ret : Option mVal → mHp → Prop} {K : Nat → mLV → List mVal → mHp → Prop} (hK : mClo m_T_readLine cal lim scr ret K)  (M : mMem) (h :
  (((M 35 5) = 1 →
    (∃ v2 m1, cal 37 [vr 35, vs 1] (S0, M) (some (vi v2), (S0, m1)) ∧
    ((v2 = 0 →
      (∃ v4 m3, cal 37 [vr 35, vs 2] (S0, m1) (some (vi v4), (S0, m3)) ∧
      ((v4 = 0 →
        (∃ v6 m5, cal 37 [vr 35, vs 3] (S0, m3) (some (vi v6), (S0, m5)) ∧
        ((v6 = 0 →
          (∃ v8 m7, cal 37 [vr 35, vs 4] (S0, m5) (some (vi v8), (S0, m7)) ∧
          ((v8 = 0 →
            (∃ v10 m9, cal 37 [vr 35, vs 5] (S0, m7) (some (vi v10), (S0, m9)) ∧
            ((v10 = 0 →
              (∃ v12 m11, cal 37 [vr 35, vs 6] (S0, m9) (some (vi v12), (S0, m11)) ∧
              ((v12 = 0 →
                (∃ m13, cal 32 [vr 35, vi 2] (S0, m11) (none, (S0, m13)) ∧
                ret none (S0, m13))) ∧ (¬ (v12 = 0) →
                (∃ m14, cal 41 [vr 35, vr 9, vi 3] (S0, m11) (none, (S0, m14)) ∧
                ret none (S0, m14)))))) ∧ (¬ (v10 = 0) →
              (∃ m15, cal 41 [vr 35, vr 9, vi 2] (S0, m9) (none, (S0, m15)) ∧
              ret none (S0, m15)))))) ∧ (¬ (v8 = 0) →
            (∃ m16, cal 41 [vr 35, vr 9, vi 1] (S0, m7) (none, (S0, m16)) ∧
            ret none (S0, m16)))))) ∧ (¬ (v6 = 0) →
          (∃ m17, cal 41 [vr 35, vr 9, vi 0] (S0, m5) (none, (S0, m17)) ∧
          ret none (S0, m17)))))) ∧ (¬ (v4 = 0) →
        (∃ m18, cal 40 [vr 35, vr 9] (S0, m3) (none, (S0, m18)) ∧
        ret none (S0, m18)))))) ∧ (¬ (v2 = 0) →
      (∃ m19, cal 38 [vr 35, vr 9] (S0, m1) (none, (S0, m19)) ∧
      ret none (S0, m19)))))) ∧ (¬ ((M 35 5) = 1) →
    (∃ m20, cal 32 [vr 35, vi 2] (S0, M) (none, (S0, m20)) ∧
    ret none (S0, m20))))) :
  K 0 [(0, vr 35), (1, vr 9)] [] (S0, M) := by
  exact mQ hK [16, 33, 50, 68, 86, 104, 122, 127] 9 0 0 b_T_readLine_0 rfl _ _ _ h
set_option maxRecDepth 40000 in
theorem q_T_isName_0 {cal : mCal} {lim : Nat × Nat} {scr : Nat × (Nat → Int)} {ret : Option mVal → mHp → Prop} {K : Nat → mLV → List mVal → mHp → Prop} (hK : mClo m_T_isName cal lim scr ret K) (i1 : Nat) (M : mMem) (h :
  (((w32 ((M 35 4) - (M 35 6))) = ((mstrs.getD i1 []).length : Nat) →
    K 20 [(0, vr 35), (1, vs (i1 + 1)), (2, vi 0)] [] (S0, M)) ∧ (¬ ((w32 ((M 35 4) - (M 35 6))) = ((mstrs.getD i1 []).length : Nat)) →
    ret (some (vi 0)) (S0, M)))) :
  K 0 [(0, vr 35), (1, vs (i1 + 1))] [] (S0, M) := by
  exact mQ hK [18, 49, 55] 4 0 0 b_T_isName_0 rfl _ _ _ h
set_option maxRecDepth 40000 in
theorem q_T_isName_20 {cal : mCal} {lim : Nat × Nat} {scr : Nat × (Nat → Int)} {ret : Option mVal → mHp → Prop} {K : Nat → mLV → List mVal → mHp → Prop} (hK : mClo m_T_isName cal lim scr ret K) (i1 : Nat) (x2 : Int) (M : mMem) (h :
  ((((mstrs.getD i1 []).length : Nat) ≤ x2 →
    ret (some (vi 1)) (S0, M)) ∧ (¬ (((mstrs.getD i1 []).length : Nat) ≤ x2) →
    mIn (w32 ((M 35 6) + x2)) 160 (mIn x2 (mstrs.getD i1 []).length ((((M 36 (w32 ((M 35 6) + x2))) = ((mstrs.getD i1 []).getD (x2 : Int).toNat 0 : Nat) →
      K 20 [(0, vr 35), (1, vs (i1 + 1)), (2, vi (w32 (x2 + 1)))] [] (S0, M)) ∧ (¬ ((M 36 (w32 ((M 35 6) + x2))) = ((mstrs.getD i1 []).getD (x2 : Int).toNat 0 : Nat)) →
      ret (some (vi 0)) (S0, M)))))))) :
  K 20 [(0, vr 35), (1, vs (i1 + 1)), (2, vi x2)] [] (S0, M) := by
  exact mQ hK [18, 49, 55] 4 2 20 b_T_isName_20 rfl _ _ _ h
set_option maxRecDepth 40000 in
theorem q_T_readRow_0 {cal : mCal} {lim : Nat × Nat} {scr : Nat × (Nat → Int)} {ret : Option mVal → mHp → Prop} {K : Nat → mLV → List mVal → mHp → Prop} (hK : mClo m_T_readRow cal lim scr ret K)  (M : mMem) (h :
  (∃ v2 m1, cal 42 [vr 35, vi 0, vi 5] (S0, M) (some (vi v2), (S0, m1)) ∧
  (((jand (jshr (m1 35 8) v2) 1) ≠ 1 →
    K 24 [(0, vr 35), (1, vr 9), (2, vi v2)] [] (S0, m1)) ∧ (¬ ((jand (jshr (m1 35 8) v2) 1) ≠ 1) →
    (∃ m3, cal 32 [vr 35, vi 4] (S0, m1) (none, (S0, m3)) ∧
    K 24 [(0, vr 35), (1, vr 9), (2, vi v2)] [] (S0, m3)))))) :
  K 0 [(0, vr 35), (1, vr 9)] [] (S0, M) := by
  exact mQ hK [84] 2 0 0 b_T_readRow_0 rfl _ _ _ h
set_option maxRecDepth 40000 in
theorem q_T_readRow_24 {cal : mCal} {lim : Nat × Nat} {scr : Nat × (Nat → Int)} {ret : Option mVal → mHp → Prop} {K : Nat → mLV → List mVal → mHp → Prop} (hK : mClo m_T_readRow cal lim scr ret K) (x2 : Int) (M : mMem) (h :
  K 38 [(0, vr 35), (1, vr 9), (2, vi x2), (3, vi 0)] [] (S0, mupd M 35 8 (jor (M 35 8) (jshl 1 x2)))) :
  K 24 [(0, vr 35), (1, vr 9), (2, vi x2)] [] (S0, M) := by
  exact mQ hK [84] 2 1 24 b_T_readRow_24 rfl _ _ _ h
set_option maxRecDepth 40000 in
theorem q_T_readRow_38 {cal : mCal} {lim : Nat × Nat} {scr : Nat × (Nat → Int)} {ret : Option mVal → mHp → Prop} {K : Nat → mLV → List mVal → mHp → Prop} (hK : mClo m_T_readRow cal lim scr ret K) (x2 : Int) (x3 : Int) (M : mMem) (h :
  ((6 < x3 →
    ret none (S0, M)) ∧ (¬ (6 < x3) →
    (((M 35 2) ≠ 0 →
      ret none (S0, M)) ∧ (¬ ((M 35 2) ≠ 0) →
      (∃ m1, cal 33 [vr 35] (S0, M) (none, (S0, m1)) ∧
      (((m1 35 2) ≠ 0 →
        K 71 [(0, vr 35), (1, vr 9), (2, vi x2), (3, vi x3)] [] (S0, m1)) ∧ (¬ ((m1 35 2) ≠ 0) →
        (((m1 35 5) ≠ 3 →
          K 71 [(0, vr 35), (1, vr 9), (2, vi x2), (3, vi x3)] [] (S0, m1)) ∧ (¬ ((m1 35 5) ≠ 3) →
          ret none (S0, m1))))))))))) :
  K 38 [(0, vr 35), (1, vr 9), (2, vi x2), (3, vi x3)] [] (S0, M) := by
  exact mQ hK [84] 2 2 38 b_T_readRow_38 rfl _ _ _ h
set_option maxRecDepth 40000 in
theorem q_T_readRow_71 {cal : mCal} {lim : Nat × Nat} {scr : Nat × (Nat → Int)} {ret : Option mVal → mHp → Prop} {K : Nat → mLV → List mVal → mHp → Prop} (hK : mClo m_T_readRow cal lim scr ret K) (x2 : Int) (x3 : Int) (M : mMem) (h :
  (∃ m1, cal 39 [vr 35, vr 9, vi x3, vi x2] (S0, M) (none, (S0, m1)) ∧
  K 38 [(0, vr 35), (1, vr 9), (2, vi x2), (3, vi (w32 (x3 + 1)))] [] (S0, m1))) :
  K 71 [(0, vr 35), (1, vr 9), (2, vi x2), (3, vi x3)] [] (S0, M) := by
  exact mQ hK [84] 2 3 71 b_T_readRow_71 rfl _ _ _ h
set_option maxRecDepth 40000 in
theorem q_T_takeCell_0 {cal : mCal} {lim : Nat × Nat} {scr : Nat × (Nat → Int)} {ret : Option mVal → mHp → Prop} {K : Nat → mLV → List mVal → mHp → Prop} (hK : mClo m_T_takeCell cal lim scr ret K) (x2 : Int) (x3 : Int) (M : mMem) (h :
  (((M 35 2) = 0 →
    (((M 35 5) = 2 →
      ((x2 < 6 →
        (((M 35 7) ≤ 4 →
          (∃ m1, cal 3 [vr 9, vi (w32 ((w32 (x2 * 6)) + x3)), vi (M 35 7)] (S0, M) (none, (S0, m1)) ∧
          ret none (S0, m1))) ∧ (¬ ((M 35 7) ≤ 4) →
          (∃ m2, cal 32 [vr 35, vi 3] (S0, M) (none, (S0, m2)) ∧
          ret none (S0, m2))))) ∧ (¬ (x2 < 6) →
        (∃ m3, cal 32 [vr 35, vi 5] (S0, M) (none, (S0, m3)) ∧
        ret none (S0, m3))))) ∧ (¬ ((M 35 5) = 2) →
      (∃ m4, cal 32 [vr 35, vi 2] (S0, M) (none, (S0, m4)) ∧
      ret none (S0, m4))))) ∧ (¬ ((M 35 2) = 0) →
    ret none (S0, M)))) :
  K 0 [(0, vr 35), (1, vr 9), (2, vi x2), (3, vi x3)] [] (S0, M) := by
  exact mQ hK [8, 24, 38, 54, 68] 6 0 0 b_T_takeCell_0 rfl _ _ _ h
set_option maxRecDepth 40000 in
theorem q_T_readThread_0 {cal : mCal} {lim : Nat × Nat} {scr : Nat × (Nat → Int)} {ret : Option mVal → mHp → Prop} {K : Nat → mLV → List mVal → mHp → Prop} (hK : mClo m_T_readThread cal lim scr ret K)  (M : mMem) (h :
  (∃ v2 m1, cal 42 [vr 35, vi 1, vi 3] (S0, M) (some (vi v2), (S0, m1)) ∧
  (((jand (jshr (m1 35 9) v2) 1) ≠ 1 →
    K 24 [(0, vr 35), (1, vr 9), (2, vi v2)] [] (S0, m1)) ∧ (¬ ((jand (jshr (m1 35 9) v2) 1) ≠ 1) →
    (∃ m3, cal 32 [vr 35, vi 4] (S0, m1) (none, (S0, m3)) ∧
    K 24 [(0, vr 35), (1, vr 9), (2, vi v2)] [] (S0, m3)))))) :
  K 0 [(0, vr 35), (1, vr 9)] [] (S0, M) := by
  exact mQ hK [] 1 0 0 b_T_readThread_0 rfl _ _ _ h
set_option maxRecDepth 40000 in
theorem q_T_readThread_24 {cal : mCal} {lim : Nat × Nat} {scr : Nat × (Nat → Int)} {ret : Option mVal → mHp → Prop} {K : Nat → mLV → List mVal → mHp → Prop} (hK : mClo m_T_readThread cal lim scr ret K) (x2 : Int) (M : mMem) (h :
  (∃ v2 m1, cal 42 [vr 35, vi 0, vi 99] (S0, mupd M 35 9 (jor (M 35 9) (jshl 1 x2))) (some (vi v2), (S0, m1)) ∧
  mIn x2 4 ((∃ m3, cal 43 [vr 35] (S0, mupd m1 11 x2 v2) (none, (S0, m3)) ∧
  ret none (S0, m3))))) :
  K 24 [(0, vr 35), (1, vr 9), (2, vi x2)] [] (S0, M) := by
  exact mQ hK [] 1 1 24 b_T_readThread_24 rfl _ _ _ h
set_option maxRecDepth 40000 in
theorem q_T_readLaw_0 {cal : mCal} {lim : Nat × Nat} {scr : Nat × (Nat → Int)} {ret : Option mVal → mHp → Prop} {K : Nat → mLV → List mVal → mHp → Prop} (hK : mClo m_T_readLaw cal lim scr ret K) (x2 : Int) (M : mMem) (h :
  (((M 9 5) < 5 →
    (∃ v2 m1, cal 42 [vr 35, vi 1, vi 3] (S0, M) (some (vi v2), (S0, m1)) ∧
    (∃ v4 m3, cal 42 [vr 35, vi 1, vi 3] (S0, m1) (some (vi v4), (S0, m3)) ∧
    (∃ v6 m5, cal 42 [vr 35, vi 1, vi 9] (S0, m3) (some (vi v6), (S0, m5)) ∧
    (∃ m7, cal 43 [vr 35] (S0, m5) (none, (S0, m7)) ∧
    (((m7 35 2) ≠ 0 →
      ret none (S0, m7)) ∧ (¬ ((m7 35 2) ≠ 0) →
      (∃ m8, cal 9 [vr 9, vi x2, vi v2, vi v4, vi v6] (S0, m7) (none, (S0, m8)) ∧
      ret none (S0, m8))))))))) ∧ (¬ ((M 9 5) < 5) →
    (∃ m9, cal 32 [vr 35, vi 5] (S0, M) (none, (S0, m9)) ∧
    ret none (S0, m9))))) :
  K 0 [(0, vr 35), (1, vr 9), (2, vi x2)] [] (S0, M) := by
  exact mQ hK [14, 59] 3 0 0 b_T_readLaw_0 rfl _ _ _ h
set_option maxRecDepth 40000 in
theorem q_T_takeNumber_0 {cal : mCal} {lim : Nat × Nat} {scr : Nat × (Nat → Int)} {ret : Option mVal → mHp → Prop} {K : Nat → mLV → List mVal → mHp → Prop} (hK : mClo m_T_takeNumber cal lim scr ret K) (x1 : Int) (x2 : Int) (M : mMem) (h :
  (∃ m1, cal 33 [vr 35] (S0, M) (none, (S0, m1)) ∧
  (((m1 35 2) ≠ 0 →
    (((m1 35 2) ≠ 0 →
      ret (some (vi x1)) (S0, m1)) ∧ (¬ ((m1 35 2) ≠ 0) →
      ret (some (vi (m1 35 7))) (S0, m1)))) ∧ (¬ ((m1 35 2) ≠ 0) →
    (((m1 35 5) = 2 →
      (((m1 35 7) < x1 →
        K 43 [(0, vr 35), (1, vi x1)] [] (S0, m1)) ∧ (¬ ((m1 35 7) < x1) →
        (((m1 35 7) ≤ x2 →
          (((m1 35 2) ≠ 0 →
            ret (some (vi x1)) (S0, m1)) ∧ (¬ ((m1 35 2) ≠ 0) →
            ret (some (vi (m1 35 7))) (S0, m1)))) ∧ (¬ ((m1 35 7) ≤ x2) →
          K 43 [(0, vr 35), (1, vi x1)] [] (S0, m1)))))) ∧ (¬ ((m1 35 5) = 2) →
      (∃ m2, cal 32 [vr 35, vi 2] (S0, m1) (none, (S0, m2)) ∧
      (((m2 35 2) ≠ 0 →
        ret (some (vi x1)) (S0, m2)) ∧ (¬ ((m2 35 2) ≠ 0) →
        ret (some (vi (m2 35 7))) (S0, m2)))))))))) :
  K 0 [(0, vr 35), (1, vi x1), (2, vi x2)] [] (S0, M) := by
  exact mQ hK [27, 48, 62, 63] 5 0 0 b_T_takeNumber_0 rfl _ _ _ h
set_option maxRecDepth 40000 in
theorem q_T_takeNumber_43 {cal : mCal} {lim : Nat × Nat} {scr : Nat × (Nat → Int)} {ret : Option mVal → mHp → Prop} {K : Nat → mLV → List mVal → mHp → Prop} (hK : mClo m_T_takeNumber cal lim scr ret K) (x1 : Int) (M : mMem) (h :
  (∃ m1, cal 32 [vr 35, vi 3] (S0, M) (none, (S0, m1)) ∧
  (((m1 35 2) ≠ 0 →
    ret (some (vi x1)) (S0, m1)) ∧ (¬ ((m1 35 2) ≠ 0) →
    ret (some (vi (m1 35 7))) (S0, m1))))) :
  K 43 [(0, vr 35), (1, vi x1)] [] (S0, M) := by
  exact mQ hK [27, 48, 62, 63] 5 2 43 b_T_takeNumber_43 rfl _ _ _ h
set_option maxRecDepth 40000 in
theorem q_T_takeStop_0 {cal : mCal} {lim : Nat × Nat} {scr : Nat × (Nat → Int)} {ret : Option mVal → mHp → Prop} {K : Nat → mLV → List mVal → mHp → Prop} (hK : mClo m_T_takeStop cal lim scr ret K)  (M : mMem) (h :
  (∃ m1, cal 33 [vr 35] (S0, M) (none, (S0, m1)) ∧
  (((m1 35 2) ≠ 0 →
    ret none (S0, m1)) ∧ (¬ ((m1 35 2) ≠ 0) →
    (((m1 35 5) = 3 →
      ret none (S0, m1)) ∧ (¬ ((m1 35 5) = 3) →
      (∃ m2, cal 32 [vr 35, vi 2] (S0, m1) (none, (S0, m2)) ∧
      ret none (S0, m2)))))))) :
  K 0 [(0, vr 35)] [] (S0, M) := by
  exact mQ hK [24] 2 0 0 b_T_takeStop_0 rfl _ _ _ h
