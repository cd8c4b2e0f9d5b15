/-! SOUNDNESS 7: constructors' calls, literals; all rows -/
def yLen : MethodName := ⟨"java/lang/String", "length", "()I"⟩
def yChr : MethodName := ⟨"java/lang/String", "charAt", "(I)C"⟩
def wLen : List Jvm.Cond := .code yLen prog_10_method_54_code 1 (some .int) :: mWS
def wChr : List Jvm.Cond := .code yChr prog_10_method_56_code 2 (some .char) :: mWS
/-- String.length and String.charAt of the literals, as contracts -/
def strMet (G : mG) (l : Launch) : Prop := (∀ i : Nat, i < 6 → Met l yLen wLen (mroom 4 0 0) (va_Pc [.ref (gK G i)] (fun U => gW G U U.heap)) (vp_Si (fun r => r = Int32.ofInt (((mstrs.getD i []).length : Nat) : Int))) 0 0 (fun _ => False)) ∧ ∀ i : Nat, i < 6 → ∀ j : Int, 0 ≤ j → j < ((mstrs.getD i []).length : Nat) → Met l yChr wChr (mroom 4 0 0) (va_Pc [.ref (gK G i), .int (Int32.ofInt j)] (fun U => gW G U U.heap)) (vp_Si (fun r => r = Int32.ofInt (((mstrs.getD i []).getD j.toNat 0 : Nat) : Int))) 0 0 (fun _ => False)
theorem gw_blind {G : mG} {av : List Value} : FrameBlind (va_Pc av (fun U => gW G U U.heap)) := fun _ _ g mk q => ⟨q.1, gW_call g mk _ q.2⟩
theorem i_cmp {a b : Int} (ha : inL a) (hb : inL b) : lg_cmp (Int64.ofInt a) (Int64.ofInt b) = Int32.ofInt (jlcmp a b) := by
  unfold lg_cmp jlcmp
  by_cases h1 : a < b
  · have h2 : Int64.ofInt a < Int64.ofInt b := (l_lt ha hb).mpr h1
    have h3 : ¬ Int64.ofInt b < Int64.ofInt a := fun z => by have := (l_lt hb ha).mp z; omega
    have h4 : ¬ Int64.ofInt a = Int64.ofInt b := fun z => by have := (l_eq ha hb).mp z; omega
    simp [h1, h2, h3, h4]
  · by_cases h5 : a = b
    · subst h5
      simp [h1]
    · have h2 : ¬ Int64.ofInt a < Int64.ofInt b := fun z => h1 ((l_lt ha hb).mp z)
      have h3 : Int64.ofInt b < Int64.ofInt a := (l_lt hb ha).mpr (by omega)
      have h4 : ¬ Int64.ofInt a = Int64.ofInt b := fun z => h5 ((l_eq ha hb).mp z)
      simp [h1, h2, h3, h4, h5]
theorem swP_at {k : Nat → Prop} {x : Int} : ∀ (ts : List Nat) (j i t : Nat), swP k x j ts → ts[i]? = some t → x = ((j + i : Nat) : Int) → k t
  | [], _, _, _, _, h, _ => by simp at h
  | t0 :: ts, j, 0, t, h, ht, hx => by
    cases ht
    exact h.1 hx
  | t0 :: ts, j, i + 1, t, h, ht, hx => swP_at ts (j + 1) i t h.2 ht (by rw [hx]; congr 1; omega)
section
variable {G : mG} {l : Launch} {own nL : Nat} {rt : Option FieldType} {ini : Bool} {cc : ByteArray} {d c0 s0 : Nat} {lim : Nat × Nat} {scr : Nat × (Nat → Int)} {p : Program} {e : Env} {R : Room} {s : State} {m : MethodId} {args : Array Value} {below : List Frame} {meth : Method} {c : Code} {Q : State → Prop} {pc : Nat} {lv : mLV} {st : List mVal} {h : mHp}
theorem W_callSi {H : Heap} {locs : List Loc} {cells slots : Nat} {ls : Array Slot} {st0 rest : List Value} {post : Int32 → Prop} {a : Array Value} (hr : va_Run p l e R s m args below meth c H locs cells slots 0 0 (F0 m pc ls st0) rest (vp_Si post a) (fun _ => False)) (kk : ∀ r, post r → W p l e R s m args below meth c H locs cells slots Q (F0 m (pc + 3) ls (.int r :: rest))) : W p l e R s m args below meth c H locs cells slots Q (F0 m pc ls st0) := by
  intro T hT X
  obtain ⟨v, st₀, t, T', L, h0, X', hL, e1, e2, ⟨r, hv, hp, hh⟩, st⟩ := hr T hT X
  cases hv
  obtain ⟨t2, a1, b1⟩ := kk r hp T' (by rw [e1, hh, h0]) (Stand.forget X' (fun q h => (hL q h).elim))
  exact ⟨t2, st t2 a1, b1⟩
theorem V_len (X : mXf G l own nL rt ini cc d c0 s0 lim scr p R s m args meth c) (hs : strMet G l) (hd4 : 4 ≤ d) {idx i : Nat} {r : List mVal} (hlk : lkS own idx 15 = true) (hr8 : (r.map mcat).sum ≤ 8) (hd : decode cc pc = .ok (.invokevirtual idx, 3))
    (kk : mV G p l e R s m args below meth c Q nL c0 s0 (pc + 3) lv (vi (((mstrs.getD i []).length : Nat) : Int) :: r) h) : mV G p l e R s m args below meth c Q nL c0 s0 pc lv (vs (i + 1) :: r) h := by
  intro h1 h2 h3 H locs ls hg hS hl
  obtain ⟨⟨hx, hbc, hml, hown, hts⟩, hG, hsz, -, hrm, hcp, -⟩ := id X
  obtain ⟨adV, hV⟩ := hG.2.2.2.2.1
  have hi : i < 6 := (okt h2).1
  unfold lkS at hlk
  split at hlk
  · rename_i y' pos hq
    have e3 := (eq_of_beq hlk).symm
    subst e3
    have hm := lk_mem hq
    have hgood : GoodIn mWS (wsV (nR own) idx "java/lang/String" yLen wLen) := by
      intro w hw
      rcases List.mem_append.mp hw with hw | hw
      · simp only [List.mem_cons, List.not_mem_nil, or_false] at hw
        rcases hw with rfl | rfl | rfl | rfl
        · exact good_ws (wAt_in (lSp_w _ hm) rfl)
        · exact good_ws (wAt_in pStr_w.1 rfl)
        · exact good_ws (wAt_in pStr_w.2.1 rfl)
        · exact good_ws (wAt_in pStr_w.2.2.2.2.2.2 rfl)
      · rcases List.mem_cons.mp hw with rfl | hw
        · exact good_ws (wAt_in pStr_w.2.2.1 rfl)
        · exact good_ws hw
    have hrun := va_runV (R := R) (H := H) (locs := locs) (cells := h.1.1.length - c0) (slots := mtot h.1.1 - s0) (g := F0 m pc ls ((vs (i + 1) :: r).map (toV G))) (As := []) (rest := r.map (toV G)) (b := gK G i) (C := "java/lang/String") (e := e) (below := below) (meth := meth) ⟨hx, hbc, hml, hown, hts⟩ (hs.1 i hi)
      (cwV 0 hts hgood rfl rfl rfl ⟨rfl, by decide, by decide, by decide +kernel⟩ ⟨by show 4 + 1 ≤ R.frames; omega, by show 8 + (1 + 11) + 33 * 4 ≤ R.locals; omega⟩)
      ⟨gw_blind, vk_recv hV hi hS, fun U hU hWm => ⟨rfl, gW_warm hWm (fun q hq1 hq2 => by rw [hU]; exact hS.2.1 q hq1 hq2) hG⟩⟩
      rfl rfl hl.1 rfl (by show 2 * 0 + _ ≤ 8; rw [cat_sum]; omega) hd ⟨by have := h3.2.1; omega, by have := h3.2.2; omega⟩
    refine W_callSi hrun (fun z hz => ?_)
    subst hz
    exact kk h1 (okc (by
      show inR _
      have : (mstrs.getD i []).length ≤ 6 := by
        rcases (show i = 0 ∨ i = 1 ∨ i = 2 ∨ i = 3 ∨ i = 4 ∨ i = 5 by omega) with rfl | rfl | rfl | rfl | rfl | rfl <;> decide
      unfold inR
      omega) (okt h2).2) h3 H locs ls hg hS hl
  · cases hlk
theorem V_chr (X : mXf G l own nL rt ini cc d c0 s0 lim scr p R s m args meth c) (hs : strMet G l) (hd4 : 4 ≤ d) {idx i : Nat} {j : Int} {r : List mVal} (hlk : lkS own idx 16 = true) (hr8 : (r.map mcat).sum ≤ 8) (hj0 : 0 ≤ j) (hj1 : j < ((mstrs.getD i []).length : Nat)) (hd : decode cc pc = .ok (.invokevirtual idx, 3))
    (kk : mV G p l e R s m args below meth c Q nL c0 s0 (pc + 3) lv (vi (((mstrs.getD i []).getD j.toNat 0 : Nat) : Int) :: r) h) : mV G p l e R s m args below meth c Q nL c0 s0 pc lv (vi j :: vs (i + 1) :: r) h := by
  intro h1 h2 h3 H locs ls hg hS hl
  obtain ⟨⟨hx, hbc, hml, hown, hts⟩, hG, hsz, -, hrm, hcp, -⟩ := id X
  obtain ⟨adV, hV⟩ := hG.2.2.2.2.1
  have hi : i < 6 := (okt (okt h2).2).1
  unfold lkS at hlk
  split at hlk
  · rename_i y' pos hq
    have e3 := (eq_of_beq hlk).symm
    subst e3
    have hm := lk_mem hq
    have hgood : GoodIn mWS (wsV (nR own) idx "java/lang/String" yChr wChr) := by
      intro w hw
      rcases List.mem_append.mp hw with hw | hw
      · simp only [List.mem_cons, List.not_mem_nil, or_false] at hw
        rcases hw with rfl | rfl | rfl | rfl
        · exact good_ws (wAt_in (lSp_w _ hm) rfl)
        · exact good_ws (wAt_in pStr_w.2.2.2.1 rfl)
        · exact good_ws (wAt_in pStr_w.2.2.2.2.1 rfl)
        · exact good_ws (wAt_in pStr_w.2.2.2.2.2.2 rfl)
      · rcases List.mem_cons.mp hw with rfl | hw
        · exact good_ws (wAt_in pStr_w.2.2.2.2.2.1 rfl)
        · exact good_ws hw
    have hrun := va_runV (R := R) (H := H) (locs := locs) (cells := h.1.1.length - c0) (slots := mtot h.1.1 - s0) (g := F0 m pc ls ((vi j :: vs (i + 1) :: r).map (toV G))) (As := [.int (Int32.ofInt j)]) (rest := r.map (toV G)) (b := gK G i) (C := "java/lang/String") (e := e) (below := below) (meth := meth) ⟨hx, hbc, hml, hown, hts⟩ (hs.2 i hi j hj0 hj1)
      (cwV 1 hts hgood rfl rfl rfl ⟨rfl, by decide, by decide, by decide +kernel⟩ ⟨by show 4 + 1 ≤ R.frames; omega, by show 8 + (2 + 11) + 33 * 4 ≤ R.locals; omega⟩)
      ⟨gw_blind, vk_recv hV hi hS, fun U hU hWm => ⟨rfl, gW_warm hWm (fun q hq1 hq2 => by rw [hU]; exact hS.2.1 q hq1 hq2) hG⟩⟩
      rfl rfl hl.1 rfl (by show 2 * 0 + _ ≤ 8; rw [cat_sum]; omega) hd ⟨by have := h3.2.1; omega, by have := h3.2.2; omega⟩
    refine W_callSi hrun (fun z hz => ?_)
    subst hz
    exact kk h1 (okc (by
      show inR _
      have : (mstrs.getD i []).getD j.toNat 0 ≤ 200 := by
        have key : ∀ l ∈ mstrs, ∀ x ∈ l, x ≤ 200 := by decide
        rw [List.getD_eq_getElem?_getD (l := mstrs.getD i [])]
        cases hq2 : (mstrs.getD i [])[j.toNat]? with
        | none => decide
        | some x =>
          have hx1 : x ∈ mstrs.getD i [] := List.mem_of_getElem? hq2
          have hi1 : mstrs.getD i [] ∈ mstrs := by
            rw [List.getD_eq_getElem?_getD, List.getElem?_eq_getElem (by show i < 6; exact hi)]
            exact List.getElem_mem _
          exact key _ hi1 x hx1
      unfold inR
      omega) (okt (okt h2).2).2) h3 H locs ls hg hS hl
  · cases hlk
theorem V_obj (X : mXf G l own nL rt ini cc d c0 s0 lim scr p R s m args meth c) {idx k : Nat} {r : List mVal} (hlk : (lOb.lookup (own, idx)).isSome = true) (hr8 : (r.map mcat).sum ≤ 8) (hd : decode cc pc = .ok (.invokespecial idx, 3))
    (kk : mV G p l e R s m args below meth c Q nL c0 s0 (pc + 3) lv r h) : mV G p l e R s m args below meth c Q nL c0 s0 pc lv (vr k :: r) h := by
  intro h1 h2 h3 H locs ls hg hS hl
  obtain ⟨⟨hx, hbc, hml, hown, hts⟩, hG, hsz, -, hrm, hcp, -⟩ := id X
  obtain ⟨pos, hq⟩ := Option.isSome_iff_exists.mp hlk
  have hm := lk_mem hq
  exact W.objInit hx hbc hown (hts _ (wAt_in (lOb_w _ hm) rfl)) (hts _ (wAt_in pFix_w.1.1 rfl)) (hts _ (wAt_in pFix_w.1.2.1 rfl)) (g := F0 m pc ls ((vr k :: r).map (toV G))) rfl (by rw [hml]; exact hl.1) (a := gSz G + k) (rest := r.map (toV G)) rfl hd (by omega) (by show 2 * 0 + _ + 12 ≤ _; rw [cat_sum]; omega) (kk h1 (okt h2).2 h3 H locs ls hg hS hl)
/-- a constructor's call -/
theorem V_callI (X : mXf G l own nL rt ini cc d c0 s0 lim scr p R s m args meth c) {idx y k : Nat} {h' : mHp} (hM : mMet G l d y (st.take (npar y + 1)).reverse h (none, h')) (hlk : (lkM own idx y || lkN own idx y) = true) (hsc : mStc y = false) (hni : mInitL.contains y = true) (hy : y < 191) (hrt : mRt y = none) (hcap : h'.1.1.length ≤ lim.1 ∧ mtot h'.1.1 ≤ lim.2 ∧ h.1.1.length ≤ h'.1.1.length ∧ mtot h.1.1 ≤ mtot h'.1.1) (hb : npar y + 1 ≤ st.length) (hk : (st.drop (npar y)).head? = some (vr k)) (hr8 : ((st.drop (npar y + 1)).map mcat).sum ≤ 8) (hd : decode cc pc = .ok (.invokespecial idx, 3))
    (kk : mV G p l e R s m args below meth c Q nL c0 s0 (pc + 3) lv (st.drop (npar y + 1)) h') : mV G p l e R s m args below meth c Q nL c0 s0 pc lv st h := by
  intro h1 h2 h3 H locs ls hg hS hl
  obtain ⟨⟨hx, hbc, hml, hown, hts⟩, hG, hsz, -, hrm, hcp, -⟩ := id X
  obtain ⟨e1, e2⟩ := take_split hb hk
  have hok : ∀ v ∈ (st.take (npar y + 1)).reverse, okV v := fun v hv => h2 v (List.mem_of_mem_take (List.mem_reverse.mp hv))
  have hM0 := hM (h'.1.1.length - h.1.1.length) (mtot h'.1.1 - mtot h.1.1) (by show h'.1.1.length = _; omega) (by show mtot h'.1.1 = _; omega) hok
  rw [e2] at hM0
  have hlen : ((st.take (npar y)).reverse.map (toV G)).length = npar y := by
    rw [List.length_map, List.length_reverse, List.length_take]; omega
  refine W_sz (fun hsize => ?_)
  have hini : (Cond.initialized (mY y).cls).before args s = true := hts _ (wAt_in (nIni_w (mOw y) (by have := (y_own hy).1; simp; omega)) rfl)
  have hinst : (Cond.instanceMethod (mY y)).before args s = true := hts _ (wAt_in (mI_of hy (by rw [hsc]; rfl)) rfl)
  have hname : (mY y).name = "<init>" := mInit_w y (List.elem_iff.mp hni)
  have hstk : st.map (toV G) = ((st.take (npar y)).reverse.map (toV G)).reverse ++ Value.ref (gSz G + k) :: (st.drop (npar y + 1)).map (toV G) := by
    rw [← List.map_reverse, List.reverse_reverse]
    conv => lhs; rw [e1]
    rw [List.map_append, List.map_cons]
    rfl
  have hpre : PreS s H (va_Pc ((vr k :: (st.take (npar y)).reverse).map (toV G)) (mPre G h)) (.ref (gSz G + k) :: (st.take (npar y)).reverse.map (toV G)) := ⟨pre_blind, fun U hU hWm => ⟨rfl, gW_warm hWm (fun q hq1 hq2 => by rw [hU]; exact hS.2.1 q hq1 hq2) hG, by rw [hU]; exact hg, by rw [hU]; exact Nat.le_trans hsz.1 hS.1, by rw [hU]; have := hsz.2; omega⟩⟩
  have hroom : (mroom d (h'.1.1.length - h.1.1.length) (mtot h'.1.1 - mtot h.1.1)).frames + 1 ≤ R.frames ∧ 8 + (mMx y + 11) + (mroom d (h'.1.1.length - h.1.1.length) (mtot h'.1.1 - mtot h.1.1)).locals ≤ R.locals := ⟨by show d + 1 ≤ R.frames; exact hrm.1, by have := (y_own hy).2; show 8 + (mMx y + 11) + 33 * d ≤ R.locals; omega⟩
  have hfit : h.1.1.length - c0 + (h'.1.1.length - h.1.1.length) ≤ R.cells ∧ mtot h.1.1 - s0 + (mtot h'.1.1 - mtot h.1.1) ≤ R.slots := ⟨by have := hcp.1; omega, by have := hcp.2; omega⟩
  have hrun : va_Run p l e R s m args below meth c H locs (h.1.1.length - c0) (mtot h.1.1 - s0) (h'.1.1.length - h.1.1.length) (mtot h'.1.1 - mtot h.1.1) (F0 m pc ls (st.map (toV G))) ((st.drop (npar y + 1)).map (toV G)) (mPost G (none, h') (Value.ref (gSz G + k) :: (st.take (npar y)).reverse.map (toV G)).toArray) (gA G) := by
    rw [Bool.or_eq_true] at hlk
    rcases hlk with hlk | hlk
    · unfold lkM at hlk
      split at hlk
      · rename_i y' pos hq
        have e3 := (eq_of_beq hlk).symm
        subst e3
        have hm := lk_mem hq
        exact va_runI (bytes := mCo y) (maxL := mMx y) ⟨hx, hbc, hml, hown, hts⟩ hM0 (cwI (npar y) hts (good_mws hy) (by rw [← hrt]; rfl) rfl rfl hini (hts _ (wAt_in (lMl_w _ hm) rfl)) hinst hname ⟨(y_cls hy).2.1, (y_cls hy).2.2, y_par hy⟩ hroom) hpre rfl hlen hl.1 hstk (by show 2 * 0 + _ ≤ 8; rw [cat_sum]; omega) hd hfit
      · cases hlk
    · unfold lkN at hlk
      split at hlk
      · rename_i y' hq
        have e3 := (eq_of_beq hlk).symm
        subst e3
        have hm := lk_mem hq
        have hN : va_Nw (.methodLinkNest (nR own) idx (mY y) "SamplerLaw") s := hG.2.1 ((own, idx), y) hm
        have hw : mws y = Cond.code (mY y) (mCo y) (mMx y) none :: mWS := by
          rw [← hrt]
          rfl
        exact va_runIN (bytes := mCo y) (maxL := mMx y) ⟨hx, hbc, hml, hown, hts⟩ hM0 ⟨va_cnB (npar y) hts (good_mws hy) hw rfl rfl hN hini ⟨(y_cls hy).2.1, (y_cls hy).2.2, y_par hy⟩ hroom, hname, hinst⟩ hpre rfl hlen hl.1 hstk (by show 2 * 0 + _ ≤ 8; rw [cat_sum]; omega) hd hfit
      · cases hlk
  refine W_call (r := (none, h')) hrun hS (fun hok2 H1 locs1 hg1 hS1 => ?_)
  have hk2 := kk h1 (fun v hv => h2 v (List.mem_of_mem_drop hv)) ⟨⟨by omega, by omega⟩, by have := hcp.1; omega, by have := hcp.2; omega⟩ H1 locs1 ls hg1 hS1 hl
  have e4 : h'.1.1.length - c0 = h.1.1.length - c0 + (h'.1.1.length - h.1.1.length) := by omega
  have e5 : mtot h'.1.1 - s0 = mtot h.1.1 - s0 + (mtot h'.1.1 - mtot h.1.1) := by omega
  rw [e4, e5] at hk2
  exact hk2
end
