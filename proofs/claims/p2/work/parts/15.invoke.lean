/-! SOUNDNESS 6: copies, Math, calls -/
theorem good_ws {w : Jvm.Cond} (h : w ∈ mWS) : w ∈ mWS ∧ ((w.onTables && w.keeps) = true ∨ ∃ ty, w = .arrayClass ty) := ⟨h, good_of_word (List.mem_filter.mp h).2⟩
theorem good_mws {y : Nat} (hy : y < 191) : GoodIn mWS (mws y) := by
  intro w hw
  rcases List.mem_cons.mp hw with rfl | hw
  · exact good_ws (wAt_in (mC_of hy rfl) rfl)
  · exact good_ws hw
theorem y_par {y : Nat} (hy : y < 191) : (parseMethodDescriptor (mY y).desc).map (fun d => d.parameters.length) = some (npar y) := by
  have h1 := List.all_eq_true.mp mB_m y (List.mem_range.mpr hy)
  simp only [Bool.and_eq_true, decide_eq_true_eq] at h1
  have hm : nDs_ (mDs y) ∈ nDs := by
    unfold nDs_
    rw [List.getD_eq_getElem?_getD, List.getElem?_eq_getElem h1.2]
    exact List.getElem_mem h1.2
  exact nDs_w _ hm
theorem y_own {y : Nat} (hy : y < 191) : mOw y < 8 ∧ mMx y ≤ 14 := by
  have h1 := List.all_eq_true.mp mB_m y (List.mem_range.mpr hy)
  simp only [Bool.and_eq_true, decide_eq_true_eq] at h1
  exact ⟨h1.1.2, h1.1.1⟩
theorem y_cls {y : Nat} (hy : y < 191) : plainName (mY y).cls = true ∧ (mY y).cls ≠ "java/lang/invoke/MethodHandle" ∧ (mY y).cls ≠ "java/lang/invoke/VarHandle" := by
  have h1 := List.all_eq_true.mp nOw_w (mOw y) (List.mem_range.mpr (by have := (y_own hy).1; omega))
  simp only [Bool.and_eq_true, Bool.not_eq_true', beq_eq_false_iff_ne] at h1
  exact ⟨h1.1.1, h1.1.2, h1.2⟩
theorem cpy_eq (m : mMem) {sr ds : Nat} {sp dp n : Int} (h1 : inR sp) (h2 : inR dp) (h3 : inR n) (p1 : 0 ≤ sp) (p2 : 0 ≤ dp) (p3 : 0 ≤ n) : (fun j : Nat => Int32.ofInt (mcpy m sr sp ds dp n ds (j : Nat))) = va_cpy (fun j : Nat => Int32.ofInt (m sr (j : Nat))) (fun j : Nat => Int32.ofInt (m ds (j : Nat))) (Int32.ofInt sp).toNatClampNeg (Int32.ofInt dp).toNatClampNeg (Int32.ofInt n).toNatClampNeg := by
  funext j
  rw [i_clamp h1, i_clamp h2, i_clamp h3]
  unfold mcpy va_cpy
  by_cases hj : dp.toNat ≤ j ∧ j < dp.toNat + n.toNat
  · rw [if_pos hj, if_pos ⟨rfl, by omega, by omega⟩]
    have : sp + ((j : Int) - dp) = ((sp.toNat + (j - dp.toNat) : Nat) : Int) := by omega
    rw [this]
  · rw [if_neg hj, if_neg (by omega)]
theorem take_split {st : List mVal} {n k : Nat} (hb : n + 1 ≤ st.length) (hk : (st.drop n).head? = some (vr k)) : st = st.take n ++ vr k :: st.drop (n + 1) ∧ (st.take (n + 1)).reverse = vr k :: (st.take n).reverse := by
  have h1 : st.drop n = vr k :: st.drop (n + 1) := by
    cases hd : st.drop n with
    | nil => rw [hd] at hk; cases hk
    | cons a t =>
      rw [hd] at hk
      cases hk
      have : st.drop (n + 1) = t := by
        rw [← List.drop_drop (i := 1) (j := n)] <;> first | (rw [hd]; rfl) | skip
      rw [this]
  have h2 : st = st.take n ++ vr k :: st.drop (n + 1) := by rw [← h1, List.take_append_drop]
  refine ⟨h2, ?_⟩
  have h3 : st.take (n + 1) = st.take n ++ [vr k] := by
    have h4 : st[n]? = some (vr k) := by rw [← List.head?_drop]; exact hk
    rw [List.take_succ, h4]
    rfl
  rw [h3, List.reverse_append]
  rfl
section
variable {G : mG} {l : Launch} {own nL : Nat} {rt : Option FieldType} {ini : Bool} {cc : ByteArray} {d c0 s0 : Nat} {lim : Nat × Nat} {scr : Nat × (Nat → Int)} {p : Program} {e : Env} {R : Room} {s : State} {m : MethodId} {args : Array Value} {below : List Frame} {meth : Method} {c : Code} {Q : State → Prop} {pc : Nat} {lv : mLV} {st : List mVal} {h : mHp}
theorem V_copy (X : mXf G l own nL rt ini cc d c0 s0 lim scr p R s m args meth c) {idx ns nd sr ds : Nat} {sp dp n : Int} {r : List mVal} (hlk : lkS own idx 3 = true) (hs : h.1.1[sr]? = some (0, ns)) (hds : h.1.1[ds]? = some (0, nd)) (q : 0 ≤ n ∧ 0 ≤ sp ∧ 0 ≤ dp ∧ sp + n ≤ (ns : Int) ∧ dp + n ≤ (nd : Int)) (hr8 : (r.map mcat).sum ≤ 8) (hd : decode cc pc = .ok (.invokestatic idx, 3))
    (kk : mV G p l e R s m args below meth c Q nL c0 s0 (pc + 3) lv r (h.1, mcpy h.2 sr sp ds dp n)) : mV G p l e R s m args below meth c Q nL c0 s0 pc lv (vi n :: vi dp :: vr ds :: vi sp :: vr sr :: r) h := by
  intro h1 h2 h3 H locs ls hg hS hl
  obtain ⟨⟨hx, hb, hml, hown, hts⟩, hG, hsz, -, hrm, -⟩ := id X
  have hn : inR n := (okt h2).1
  have hdp : inR dp := (okt (okt h2).2).1
  have hsp : inR sp := (okt (okt (okt (okt h2).2).2).2).1
  have hrr := (okt (okt (okt (okt (okt h2).2).2).2).2).2
  unfold lkS at hlk
  split at hlk
  · rename_i y pos hq
    have e1 := (eq_of_beq hlk).symm
    subst e1
    have hm := lk_mem hq
    have hz : ∀ z : Int, inR z → 0 ≤ z → ¬ Int32.ofInt z < 0 := fun z hz h0 => by rw [show (0 : Int32) = Int32.ofInt 0 from rfl, i_lt hz inR_0]; omega
    have hnf : nativeFrameWords "java/lang/System" "arraycopy" 5 ≤ 14 := by decide
    refine va_copyi (ty := .int) (own := nR own) (index := idx) hx hb (by rw [hml, hl.1]) hown (hts _ (wAt_in (lSp_w _ hm) rfl)) (hts _ (wAt_in pFix_w.1.2.2.2.1 rfl)) (hts _ (wAt_in pFix_w.1.2.2.1 rfl)) (hts _ (wAt_in pFix_w.1.2.2.2.2.1 rfl)) hG.1 hg.1 (mW_D G h) hS sr ds 0 0 (mW_at hs) (mW_at hds) rfl rfl rfl (hz sp hsp q.2.1) (hz dp hdp q.2.2.1) (hz n hn q.1) (by rw [i_clamp hsp, i_clamp hn]; omega) (by rw [i_clamp hdp, i_clamp hn]; omega) (fun _ _ => rfl) (by omega) (by rw [cat_sum]; omega) hd (fun H1 locs1 hP1 _ hS1 => ?_)
    refine kk h1 hrr h3 H1 locs1 ls ⟨?_, hg.2.1, fun k i => ?_⟩ hS1 hl
    · rw [mW_set (h := h) (h' := (h.1, mcpy h.2 sr sp ds dp n)) hds rfl (fun j hj => ⟨by funext x; simp [mcpy, hj], rfl⟩)]
      have e3 : wentF G ((h.1, mcpy h.2 sr sp ds dp n).2 ds) (mrf (h.1, mcpy h.2 sr sp ds dp n) ds) (0, nd) = .inl (gI G, nd, .inl (va_cpy (fun j : Nat => Int32.ofInt (h.2 sr (j : Nat))) (fun j : Nat => Int32.ofInt (h.2 ds (j : Nat))) (Int32.ofInt sp).toNatClampNeg (Int32.ofInt dp).toNatClampNeg (Int32.ofInt n).toNatClampNeg)) := by
        show Sum.inl (gI G, nd, Sum.inl (fun j : Nat => Int32.ofInt (mcpy h.2 sr sp ds dp n ds (j : Nat)))) = _
        rw [cpy_eq h.2 hsp hdp hn q.2.1 q.2.2.1 q.1]
      rw [e3]
      exact hP1
    · show inR (mcpy h.2 sr sp ds dp n k i)
      unfold mcpy
      split <;> exact hg.2.2 _ _
  · cases hlk
theorem V_min (X : mXf G l own nL rt ini cc d c0 s0 lim scr p R s m args meth c) {idx : Nat} {x y : Int} {r : List mVal} (hlk : lkS own idx 4 = true) (hr8 : (r.map mcat).sum ≤ 8) (hd : decode cc pc = .ok (.invokestatic idx, 3))
    (kk : mV G p l e R s m args below meth c Q nL c0 s0 (pc + 3) lv (vi (if x ≤ y then x else y) :: r) h) : mV G p l e R s m args below meth c Q nL c0 s0 pc lv (vi y :: vi x :: r) h := by
  intro h1 h2 h3 H locs ls hg hS hl
  obtain ⟨⟨hx, hb, hml, hown, hts⟩, hG, hsz, -, hrm, hcp, -⟩ := id X
  have hy : inR y := (okt h2).1
  have hxx : inR x := (okt (okt h2).2).1
  unfold lkS at hlk
  split at hlk
  · rename_i y' pos hq
    have e1 := (eq_of_beq hlk).symm
    subst e1
    have hm := lk_mem hq
    refine va_mmin (own := nR own) (index := idx) hx hb (by rw [hml, hl.1]) hown (hts _ (wAt_in (lSp_w _ hm) rfl)) (hts _ (wAt_in pFix_w.2.1.1 rfl)) (hts _ (wAt_in pFix_w.1.2.2.2.2.2 rfl)) (hts _ (wAt_in pFix_w.2.1.2.1 rfl)) (by omega) (by rw [cat_sum]; omega) (by have := h3.2.1; omega) (by have := h3.2.2; omega) hd ?_
    have hk := kk h1 (okc (by show inR _; split <;> assumption) (okt (okt h2).2).2) h3 H locs ls hg hS hl
    have e2 : (Int32.ofInt (if x ≤ y then x else y)) = (if Int32.ofInt y < Int32.ofInt x then Int32.ofInt y else Int32.ofInt x) := by
      by_cases hxy : x ≤ y
      · rw [if_pos hxy, if_neg (by rw [i_lt hy hxx]; omega)]
      · rw [if_neg hxy, if_pos (by rw [i_lt hy hxx]; omega)]
    have hk' : W p l e R s m args below meth c H locs (h.1.1.length - c0) (mtot h.1.1 - s0) Q (F0 m (pc + 3) ls (.int (Int32.ofInt (if x ≤ y then x else y)) :: r.map (toV G))) := hk
    rw [e2] at hk'
    exact hk'
  · cases hlk
theorem V_max (X : mXf G l own nL rt ini cc d c0 s0 lim scr p R s m args meth c) {idx : Nat} {x y : Int} {r : List mVal} (hlk : lkS own idx 5 = true) (hr8 : (r.map mcat).sum ≤ 8) (hd : decode cc pc = .ok (.invokestatic idx, 3))
    (kk : mV G p l e R s m args below meth c Q nL c0 s0 (pc + 3) lv (vi (if x ≤ y then y else x) :: r) h) : mV G p l e R s m args below meth c Q nL c0 s0 pc lv (vi y :: vi x :: r) h := by
  intro h1 h2 h3 H locs ls hg hS hl
  obtain ⟨⟨hx, hb, hml, hown, hts⟩, hG, hsz, -, hrm, hcp, -⟩ := id X
  have hy : inR y := (okt h2).1
  have hxx : inR x := (okt (okt h2).2).1
  unfold lkS at hlk
  split at hlk
  · rename_i y' pos hq
    have e1 := (eq_of_beq hlk).symm
    subst e1
    have hm := lk_mem hq
    refine va_mmax (own := nR own) (index := idx) hx hb (by rw [hml, hl.1]) hown (hts _ (wAt_in (lSp_w _ hm) rfl)) (hts _ (wAt_in pFix_w.2.1.2.2.1 rfl)) (hts _ (wAt_in pFix_w.1.2.2.2.2.2 rfl)) (hts _ (wAt_in pFix_w.2.1.2.2.2.1 rfl)) (by omega) (by rw [cat_sum]; omega) (by have := h3.2.1; omega) (by have := h3.2.2; omega) hd ?_
    have hk := kk h1 (okc (by show inR _; split <;> assumption) (okt (okt h2).2).2) h3 H locs ls hg hS hl
    have e2 : (Int32.ofInt (if x ≤ y then y else x)) = (if Int32.ofInt x < Int32.ofInt y then Int32.ofInt y else Int32.ofInt x) := by
      by_cases hxy : x < y
      · rw [if_pos (by omega), if_pos (by rw [i_lt hxx hy]; omega)]
      · rw [if_neg (c := Int32.ofInt x < Int32.ofInt y) (by rw [i_lt hxx hy]; omega)]
        split
        · have : x = y := by omega
          rw [this]
        · rfl
    have hk' : W p l e R s m args below meth c H locs (h.1.1.length - c0) (mtot h.1.1 - s0) Q (F0 m (pc + 3) ls (.int (Int32.ofInt (if x ≤ y then y else x)) :: r.map (toV G))) := hk
    rw [e2] at hk'
    exact hk'
  · cases hlk
theorem V_maxL (X : mXf G l own nL rt ini cc d c0 s0 lim scr p R s m args meth c) {idx : Nat} {x y : Int} {r : List mVal} (hlk : lkS own idx 6 = true) (hr8 : (r.map mcat).sum ≤ 8) (hd : decode cc pc = .ok (.invokestatic idx, 3))
    (kk : mV G p l e R s m args below meth c Q nL c0 s0 (pc + 3) lv (vl (if x ≤ y then y else x) :: r) h) : mV G p l e R s m args below meth c Q nL c0 s0 pc lv (vl y :: vl x :: r) h := by
  intro h1 h2 h3 H locs ls hg hS hl
  obtain ⟨⟨hx, hb, hml, hown, hts⟩, hG, hsz, -, hrm, hcp, -⟩ := id X
  have hy : inL y := (okt h2).1
  have hxx : inL x := (okt (okt h2).2).1
  unfold lkS at hlk
  split at hlk
  · rename_i y' pos hq
    have e1 := (eq_of_beq hlk).symm
    subst e1
    have hm := lk_mem hq
    refine va_mmax_long (own := nR own) (index := idx) hx hb (by rw [hml, hl.1]) hown (hts _ (wAt_in (lSp_w _ hm) rfl)) (hts _ (wAt_in pFix_w.2.1.2.2.2.2.1 rfl)) (hts _ (wAt_in pFix_w.1.2.2.2.2.2 rfl)) (hts _ (wAt_in pFix_w.2.1.2.2.2.2.2 rfl)) (by omega) (by rw [cat_sum]; omega) (by have := h3.2.1; omega) (by have := h3.2.2; omega) hd ?_
    have hk := kk h1 (okc (by show inL _; split <;> assumption) (okt (okt h2).2).2) h3 H locs ls hg hS hl
    have e2 : (Int64.ofInt (if x ≤ y then y else x)) = (if Int64.ofInt y < Int64.ofInt x then Int64.ofInt x else Int64.ofInt y) := by
      by_cases hxy : x ≤ y
      · rw [if_pos hxy, if_neg (by rw [l_lt hy hxx]; omega)]
      · rw [if_neg hxy, if_pos (by rw [l_lt hy hxx]; omega)]
    have hk' : W p l e R s m args below meth c H locs (h.1.1.length - c0) (mtot h.1.1 - s0) Q (F0 m (pc + 3) ls (.long (Int64.ofInt (if x ≤ y then y else x)) :: r.map (toV G))) := hk
    rw [e2] at hk'
    exact hk'
  · cases hlk
theorem pre_blind {G : mG} {h : mHp} {av : List Value} : FrameBlind (va_Pc av (mPre G h)) := fun _ U g mk q => ⟨q.1, gW_call g mk _ q.2.1, q.2.2.1, q.2.2.2⟩
/-- a call of an object's method; the shape stays -/
theorem V_callV (X : mXf G l own nL rt ini cc d c0 s0 lim scr p R s m args meth c) {idx y k nk : Nat} {r : Option mVal × mHp} (hM : mMet G l d y (st.take (npar y + 1)).reverse h r) (hr : r.2.1 = h.1) (hlk : lkM own idx y = true) (hsc : mStc y = false) (hni : mInitL.contains y = false) (hy : y < 191) (hb : npar y + 1 ≤ st.length) (hk : (st.drop (npar y)).head? = some (vr k)) (ht : h.1.1[k]? = some (mOw y + 3, nk)) (hr8 : ((st.drop (npar y + 1)).map mcat).sum ≤ 8) (hd : decode cc pc = .ok (.invokevirtual idx, 3))
    (kk : mV G p l e R s m args below meth c Q nL c0 s0 (pc + 3) lv (r.1.toList ++ st.drop (npar y + 1)) r.2) : mV G p l e R s m args below meth c Q nL c0 s0 pc lv st h := by
  intro h1 h2 h3 H locs ls hg hS hl
  obtain ⟨⟨hx, hbc, hml, hown, hts⟩, hG, hsz, -, hrm, hcp, -⟩ := id X
  obtain ⟨e1, e2⟩ := take_split hb hk
  unfold lkM at hlk
  split at hlk
  · rename_i y' pos hq
    have e3 := (eq_of_beq hlk).symm
    subst e3
    have hm := lk_mem hq
    have hok : ∀ v ∈ (st.take (npar y + 1)).reverse, okV v := fun v hv => h2 v (List.mem_of_mem_take (List.mem_reverse.mp hv))
    have hM0 := hM 0 0 (by rw [hr]; rfl) (by rw [hr]; rfl) hok
    rw [e2] at hM0
    have ho7 : mOw y < 7 := (hg.2.1.1 k _ nk ht).2
    have hlen : ((st.take (npar y)).reverse.map (toV G)).length = npar y := by
      rw [List.length_map, List.length_reverse, List.length_take]; omega
    refine W_sz (fun hsize => ?_)
    have hgood : GoodIn mWS (wsV (nR own) idx (nR (mOw y)) (mY y) (mws y)) := by
      intro w hw
      rcases List.mem_append.mp hw with hw | hw
      · simp only [List.mem_cons, List.not_mem_nil, or_false] at hw
        rcases hw with rfl | rfl | rfl | rfl
        · exact good_ws (wAt_in (lMl_w _ hm) rfl)
        · exact good_ws (wAt_in (mI_of hy (by rw [hsc]; rfl)) rfl)
        · exact good_ws (wAt_in (mV_of hy (by rw [hsc, hni]; rfl)) rfl)
        · exact good_ws (wAt_in (nIni_w (mOw y) (by simp; omega)) rfl)
      · exact good_mws hy w hw
    have hrun := va_runV (R := R) (H := H) (locs := locs) (cells := h.1.1.length - c0) (slots := mtot h.1.1 - s0) (g := F0 m pc ls (st.map (toV G))) (As := (st.take (npar y)).reverse.map (toV G)) (rest := (st.drop (npar y + 1)).map (toV G)) (b := gSz G + k) (C := nR (mOw y)) (e := e) (below := below) (meth := meth) ⟨hx, hbc, hml, hown, hts⟩ hM0
      (cwV (npar y) hts hgood rfl rfl rfl ⟨rfl, (y_cls hy).2.1, (y_cls hy).2.2, y_par hy⟩ ⟨by show d + 1 ≤ R.frames; exact hrm.1, by have := (y_own hy).2; show 8 + (mMx y + 11) + 33 * d ≤ R.locals; omega⟩)
      ⟨pre_blind, va_recv hG.1 hg.1 (cls_at ho7) (mW_at ht), fun U hU hWm => ⟨rfl, gW_warm hWm (fun q hq1 hq2 => by rw [hU]; exact hS.2.1 q hq1 hq2) hG, by rw [hU]; exact hg, by rw [hU]; exact Nat.le_trans hsz.1 hS.1, by rw [hU]; have := hsz.2; omega⟩⟩
      rfl hlen hl.1 (by show st.map (toV G) = _; rw [← List.map_reverse, List.reverse_reverse]; conv => lhs; rw [e1]
                        rw [List.map_append, List.map_cons]; rfl)
      (by show 2 * 0 + _ ≤ 8; rw [cat_sum]; omega) hd ⟨by have := h3.2.1; omega, by have := h3.2.2; omega⟩
    refine W_call (r := r) hrun hS (fun hok2 H1 locs1 hg1 hS1 => ?_)
    have hk2 := kk h1 (fun v hv => by
      rcases List.mem_append.mp hv with hv | hv
      · exact hok2 v hv
      · exact h2 v (List.mem_of_mem_drop hv)) (by rw [hr]; exact h3) H1 locs1 ls hg1 hS1 hl
    rw [hr] at hk2
    have e4 : (r.1.toList ++ st.drop (npar y + 1)).map (toV G) = (r.1.map (toV G)).toList ++ (st.drop (npar y + 1)).map (toV G) := by
      rw [List.map_append]; congr 1; cases r.1 <;> rfl
    rw [e4] at hk2
    exact hk2
  · cases hlk
theorem V_callS (X : mXf G l own nL rt ini cc d c0 s0 lim scr p R s m args meth c) {idx y : Nat} {r : Option mVal × mHp} (hM : mMet G l d y (st.take (npar y)).reverse h r) (hr : r.2.1 = h.1) (hlk : lkM own idx y = true) (hsc : mStc y = true) (hy : y < 191) (hb : npar y ≤ st.length) (hr8 : ((st.drop (npar y)).map mcat).sum ≤ 8) (hd : decode cc pc = .ok (.invokestatic idx, 3))
    (kk : mV G p l e R s m args below meth c Q nL c0 s0 (pc + 3) lv (r.1.toList ++ st.drop (npar y)) r.2) : mV G p l e R s m args below meth c Q nL c0 s0 pc lv st h := by
  intro h1 h2 h3 H locs ls hg hS hl
  obtain ⟨⟨hx, hbc, hml, hown, hts⟩, hG, hsz, -, hrm, hcp, -⟩ := id X
  unfold lkM at hlk
  split at hlk
  · rename_i y' pos hq
    have e3 := (eq_of_beq hlk).symm
    subst e3
    have hm := lk_mem hq
    have hok : ∀ v ∈ (st.take (npar y)).reverse, okV v := fun v hv => h2 v (List.mem_of_mem_take (List.mem_reverse.mp hv))
    have hM0 := hM 0 0 (by rw [hr]; rfl) (by rw [hr]; rfl) hok
    have hlen : ((st.take (npar y)).reverse.map (toV G)).length = npar y := by
      rw [List.length_map, List.length_reverse, List.length_take]; omega
    refine W_sz (fun hsize => ?_)
    have hini : (Cond.initialized (mY y).cls).before args s = true := hts _ (wAt_in (nIni_w (mOw y) (by have := (y_own hy).1; simp; omega)) rfl)
    have hcb : CallB R s args (nR own) idx (mY y) (mCo y) (mMx y) (mRt y) (mws y) (mroom d 0 0) 0 0 (npar y) := callB_of (npar y) hts (good_mws hy) rfl rfl rfl hini (hts _ (wAt_in (lMl_w _ hm) rfl)) ⟨(y_cls hy).2.1, (y_cls hy).2.2, y_par hy⟩ ⟨by show d + 1 ≤ R.frames; exact hrm.1, by have := (y_own hy).2; show 8 + (mMx y + 11) + 33 * d ≤ R.locals; omega⟩
    have hrun := va_runS (R := R) (H := H) (locs := locs) (cells := h.1.1.length - c0) (slots := mtot h.1.1 - s0) (g := F0 m pc ls (st.map (toV G))) (As := (st.take (npar y)).reverse.map (toV G)) (rest := (st.drop (npar y)).map (toV G)) (e := e) (below := below) (meth := meth) ⟨hx, hbc, hml, hown, hts⟩ hM0
      ⟨hcb, hts _ (wAt_in (mS_of hy hsc) rfl)⟩
      ⟨pre_blind, fun U hU hWm => ⟨rfl, gW_warm hWm (fun q hq1 hq2 => by rw [hU]; exact hS.2.1 q hq1 hq2) hG, by rw [hU]; exact hg, by rw [hU]; exact Nat.le_trans hsz.1 hS.1, by rw [hU]; have := hsz.2; omega⟩⟩
      rfl hlen hl.1 (by show st.map (toV G) = _; rw [← List.map_reverse, List.reverse_reverse, ← List.map_append, List.take_append_drop])
      (by show 2 * 0 + _ ≤ 8; rw [cat_sum]; omega) hd ⟨by have := h3.2.1; omega, by have := h3.2.2; omega⟩
    refine W_call (r := r) hrun hS (fun hok2 H1 locs1 hg1 hS1 => ?_)
    have hk2 := kk h1 (fun v hv => by
      rcases List.mem_append.mp hv with hv | hv
      · exact hok2 v hv
      · exact h2 v (List.mem_of_mem_drop hv)) (by rw [hr]; exact h3) H1 locs1 ls hg1 hS1 hl
    rw [hr] at hk2
    have e4 : (r.1.toList ++ st.drop (npar y)).map (toV G) = (r.1.map (toV G)).toList ++ (st.drop (npar y)).map (toV G) := by
      rw [List.map_append]; congr 1; cases r.1 <;> rfl
    rw [e4] at hk2
    exact hk2
  · cases hlk
end
