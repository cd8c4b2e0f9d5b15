/-! SOUNDNESS 4: a frame follows its rows -/
section
variable {G : mG} {l : Launch} {own nL : Nat} {rt : Option FieldType} {ini : Bool} {cc : ByteArray} {d c0 s0 : Nat} {lim : Nat × Nat} {scr : Nat × (Nat → Int)} {p : Program} {e : Env} {R : Room} {s : State} {m : MethodId} {args : Array Value} {below : List Frame} {meth : Method} {c : Code} {Q : State → Prop} {pc : Nat} {lv : mLV} {st : List mVal} {h : mHp}
theorem okc {x : mVal} {r : List mVal} (h : okV x) (hr : ∀ v ∈ r, okV v) : ∀ v ∈ x :: r, okV v := List.forall_mem_cons.mpr ⟨h, hr⟩
theorem okt {x : mVal} {r : List mVal} (h : ∀ v ∈ x :: r, okV v) : okV x ∧ ∀ v ∈ r, okV v := List.forall_mem_cons.mp h
theorem cat_sum (G : mG) (r : List mVal) : ((r.map (toV G)).map fun v => v.category).sum = (r.map mcat).sum := by
  rw [List.map_map]
  congr 1
  refine List.map_congr_left fun v _ => toV_cat G v
/-- a jump: fewer locals are asked for there -/
theorem V_jump {lb : List (Nat × List Nat)} {t : Nat} {lv : mLV} {st : List mVal} {h : mHp} (k : mV G p l e R s m args below meth c Q nL c0 s0 t (lpick lb t lv) st h) : mV G p l e R s m args below meth c Q nL c0 s0 t lv st h := by
  intro h1 h2 h3 H locs ls hg hS hl
  exact k (fun q hq => h1 q (lpick_sub lb t lv q hq)) h2 h3 H locs ls hg hS (lv_tsub hl (lpick_sub lb t lv))
theorem lv_of {G : mG} {ls : Array Slot} {nL : Nat} {lv : mLV} {i : Nat} {v : mVal} (hl : lv_has ls nL (tLV G lv)) (hv : (i, v) ∈ lv) : ls[i]? = some (.val (toV G v)) := hl.2.2 (i, toV G v) (List.mem_map.mpr ⟨(i, v), hv, rfl⟩)
theorem lv_idx {G : mG} {lv : mLV} {i : Nat} {v : mVal} (hv : (i, v) ∈ lv) : ∃ k : Nat, (tLV G lv)[k]? = some (i, toV G v) := by
  obtain ⟨k, hk⟩ := List.getElem?_of_mem hv
  exact ⟨k, by unfold tLV; rw [List.getElem?_map, hk]; rfl⟩
/-- an int field is read -/
theorem V_getI (X : mXf G l own nL rt ini cc d c0 s0 lim scr p R s m args meth c) {idx a b k n : Nat} {r : List mVal} (hlk : lkF own idx a b = true) (hrf : nRf a b = false) (ht : h.1.1[k]? = some (a + 3, n)) (hd : decode cc pc = .ok (.getfield idx, 3))
    (kk : mV G p l e R s m args below meth c Q nL c0 s0 (pc + 3) lv (vi (h.2 k (b : Nat)) :: r) h) : mV G p l e R s m args below meth c Q nL c0 s0 pc lv (vr k :: r) h := by
  intro h1 h2 h3 H locs ls hg hS hl
  obtain ⟨⟨hx, hb, hml, hown, hts⟩, hG, -⟩ := X
  unfold lkF at hlk
  split at hlk
  · rename_i ci kf pos hq
    rw [Bool.and_eq_true] at hlk
    have e1 := (eq_of_beq hlk.1).symm
    have e2 := (eq_of_beq hlk.2).symm
    subst e1; subst e2
    have hm := lk_mem hq
    have hw := wAt_in (lFl_w _ hm) rfl
    have hb1 := List.all_eq_true.mp lFl_b _ hm
    simp only [Bool.and_eq_true, decide_eq_true_eq] at hb1
    obtain ⟨rfl, ha7⟩ := hg.2.1.1 k a n ht
    refine va_get (C := nR a) (T := nT a) (N := nN a) (ci := a) (own := nR own) (ref := nR a) (index := idx) hx hb hts (u_in ha7) hown hG.1 hg.1 k (mW_at ht) (cls_at ha7) b hb1.2 (hts _ hw) (fun _ h => h) (v := .int (Int32.ofInt (h.2 k (b : Nat)))) ?_ hd (kk h1 (okc (hg.2.2 _ _) (okt h2).2) h3 H locs ls hg hS hl)
    rw [List.getElem?_map, List.getElem?_range hb1.2]
    simp [fvalF, hrf]
  · cases hlk
/-- a reference is read -/
theorem V_getR (X : mXf G l own nL rt ini cc d c0 s0 lim scr p R s m args meth c) {idx a b k n t : Nat} {r : List mVal} (hlk : lkF own idx a b = true) (hrf : nRf a b = true) (ht : h.1.1[k]? = some (a + 3, n)) (hr : h.1.2.lookup (k, b) = some t) (hd : decode cc pc = .ok (.getfield idx, 3))
    (kk : mV G p l e R s m args below meth c Q nL c0 s0 (pc + 3) lv (vr t :: r) h) : mV G p l e R s m args below meth c Q nL c0 s0 pc lv (vr k :: r) h := by
  intro h1 h2 h3 H locs ls hg hS hl
  obtain ⟨⟨hx, hb, hml, hown, hts⟩, hG, -⟩ := X
  unfold lkF at hlk
  split at hlk
  · rename_i ci kf pos hq
    rw [Bool.and_eq_true] at hlk
    have e1 := (eq_of_beq hlk.1).symm
    have e2 := (eq_of_beq hlk.2).symm
    subst e1; subst e2
    have hm := lk_mem hq
    have hw := wAt_in (lFl_w _ hm) rfl
    have hb1 := List.all_eq_true.mp lFl_b _ hm
    simp only [Bool.and_eq_true, decide_eq_true_eq] at hb1
    obtain ⟨rfl, ha7⟩ := hg.2.1.1 k a n ht
    refine va_get (C := nR a) (T := nT a) (N := nN a) (ci := a) (own := nR own) (ref := nR a) (index := idx) hx hb hts (u_in ha7) hown hG.1 hg.1 k (mW_at ht) (cls_at ha7) b hb1.2 (hts _ hw) (fun _ h => h) (v := .ref (gSz G + t)) ?_ hd (kk h1 (okc trivial (okt h2).2) h3 H locs ls hg hS hl)
    rw [List.getElem?_map, List.getElem?_range hb1.2]
    simp [fvalF, hrf, mrf, hr, va_rf]
  · cases hlk
/-- an int field is written -/
theorem V_putI (X : mXf G l own nL rt ini cc d c0 s0 lim scr p R s m args meth c) {idx a b k n : Nat} {v : Int} {r : List mVal} (hlk : lkF own idx a b = true) (hrf : nRf a b = false) (hz : (nFk a b).2.1 = "Z" → v = 0 ∨ v = 1) (ht : h.1.1[k]? = some (a + 3, n)) (hd : decode cc pc = .ok (.putfield idx, 3))
    (kk : mV G p l e R s m args below meth c Q nL c0 s0 (pc + 3) lv r (h.1, mupd h.2 k (b : Nat) v)) : mV G p l e R s m args below meth c Q nL c0 s0 pc lv (vi v :: vr k :: r) h := by
  intro h1 h2 h3 H locs ls hg hS hl
  obtain ⟨⟨hx, hb, hml, hown, hts⟩, hG, -⟩ := X
  have hv : inR v := (okt h2).1
  unfold lkF at hlk
  split at hlk
  · rename_i ci kf pos hq
    rw [Bool.and_eq_true] at hlk
    have e1 := (eq_of_beq hlk.1).symm
    have e2 := (eq_of_beq hlk.2).symm
    subst e1; subst e2
    have hm := lk_mem hq
    have hw := wAt_in (lFl_w _ hm) rfl
    have hb1 := List.all_eq_true.mp lFl_b _ hm
    simp only [Bool.and_eq_true, decide_eq_true_eq] at hb1
    obtain ⟨rfl, ha7⟩ := hg.2.1.1 k a n ht
    have hty := nTy_of ha7 hb1.2
    obtain ⟨hfin, hkind⟩ := hty.2.2 hrf
    have hnf : narrow (nTy a b) (.int (Int32.ofInt v)) = .int (Int32.ofInt v) ∧ fits (nTy a b) (.int (Int32.ofInt v)) = true := by
      rcases hkind with ⟨e, -⟩ | ⟨e, e2⟩
      · rw [e]; exact ⟨rfl, rfl⟩
      · rw [e]
        rcases hz e2 with rfl | rfl <;> exact ⟨by decide, by decide⟩
    refine va_put (C := nR a) (T := nT a) (N := nN a) (ci := a) (own := nR own) (ref := nR a) (index := idx) hx hb hts (u_in ha7) (nTy a) (fun k hk => (nTy_of ha7 hk).1) (nNm_of ha7) hown hG.1 hg.1 (mW_D G h) hS k (mW_at ht) (cls_at ha7) b hb1.2 (hts _ hw) (fun _ h => h) hfin hty.1 hnf.1 hnf.2 (by simpa using hb1.2) hd (fun H1 locs1 hP1 _ hS1 => ?_)
    refine kk h1 (okt (okt h2).2).2 h3 H1 locs1 ls ⟨?_, hg.2.1, mupd_in hg.2.2 hv⟩ hS1 hl
    rw [mW_set (h := h) (h' := (h.1, mupd h.2 k (b : Nat) v)) ht rfl (fun j hj => ⟨mupd_o _ _ _ hj, rfl⟩)]
    have e3 : wentF G ((h.1, mupd h.2 k (b : Nat) v).2 k) (mrf (h.1, mupd h.2 k (b : Nat) v) k) (a + 3, nN a) = .inr (a, ((List.range (nN a)).map (fvalF G (h.2 k) (mrf h k) a)).set b (.int (Int32.ofInt v))) := by
      show Sum.inr (a, (List.range (nN a)).map (fvalF G (mupd h.2 k (b : Nat) v k) (mrf h k) a)) = _
      rw [mupd_k, obj_upd hrf]
    rw [e3]
    exact hP1
  · cases hlk
/-- a reference is written (a final field, in a constructor) -/
theorem V_putR (X : mXf G l own nL rt ini cc d c0 s0 lim scr p R s m args meth c) {idx a b k n v : Nat} {r : List mVal} (hlk : lkF own idx a b = true) (hrf : nRf a b = true) (hini : ini = true) (hoa : own = a) (ht : h.1.1[k]? = some (a + 3, n)) (hd : decode cc pc = .ok (.putfield idx, 3))
    (kk : mV G p l e R s m args below meth c Q nL c0 s0 (pc + 3) lv r ((h.1.1, ((k, b), v) :: h.1.2), h.2)) : mV G p l e R s m args below meth c Q nL c0 s0 pc lv (vr v :: vr k :: r) h := by
  intro h1 h2 h3 H locs ls hg hS hl
  obtain ⟨⟨hx, hb, hml, hown, hts⟩, hG, -, hin, -⟩ := X
  unfold lkF at hlk
  split at hlk
  · rename_i ci kf pos hq
    rw [Bool.and_eq_true] at hlk
    have e1 := (eq_of_beq hlk.1).symm
    have e2 := (eq_of_beq hlk.2).symm
    subst e1; subst e2
    have hm := lk_mem hq
    have hw := wAt_in (lFl_w _ hm) rfl
    have hb1 := List.all_eq_true.mp lFl_b _ hm
    simp only [Bool.and_eq_true, decide_eq_true_eq] at hb1
    obtain ⟨rfl, ha7⟩ := hg.2.1.1 k a n ht
    have hty := nTy_of ha7 hb1.2
    obtain ⟨hfin, hkind⟩ := hty.2.1 hrf
    have hnf : narrow (nTy a b) (.ref (gSz G + v)) = .ref (gSz G + v) ∧ fits (nTy a b) (.ref (gSz G + v)) = true := by
      rcases hkind with ⟨x, e⟩ | ⟨x, e⟩ <;> (rw [e]; exact ⟨rfl, rfl⟩)
    refine va_putF (C := nR a) (T := nT a) (N := nN a) (ci := a) (own := nR own) (ref := nR a) (index := idx) hx hb hts (u_in ha7) (nTy a) (fun k hk => (nTy_of ha7 hk).1) (nNm_of ha7) hown hG.1 hg.1 (mW_D G h) hS k (mW_at ht) (cls_at ha7) b hb1.2 (hts _ hw) (fun _ h => h) hfin (hin hini) (by show nR a = nR own; rw [hoa]) hty.1 hnf.1 hnf.2 (by simpa using hb1.2) hd (fun H1 locs1 hP1 _ hS1 => ?_)
    refine kk h1 (okt (okt h2).2).2 h3 H1 locs1 ls ⟨?_, ⟨hg.2.1.1, fun q hq => ?_, hg.2.1.2.2⟩, hg.2.2⟩ hS1 hl
    · rw [mW_set (h := h) (h' := ((h.1.1, ((k, b), v) :: h.1.2), h.2)) ht rfl (fun j hj => ⟨rfl, by first | (rw [mrf_cons, if_neg hj]; done) | (rw [mrf_cons, if_neg hj]; rfl)⟩)]
      have e3 : wentF G (((h.1.1, ((k, b), v) :: h.1.2), h.2).2 k) (mrf ((h.1.1, ((k, b), v) :: h.1.2), h.2) k) (a + 3, nN a) = .inr (a, ((List.range (nN a)).map (fvalF G (h.2 k) (mrf h k) a)).set b (.ref (gSz G + v))) := by
        rw [mrf_cons, if_pos rfl]
        show Sum.inr (a, (List.range (nN a)).map (fvalF G (h.2 k) (fun j => if j = b then some v else mrf h k j) a)) = _
        rw [obj_ref hrf]
      rw [e3]
      exact hP1
    · rcases List.mem_cons.mp hq with rfl | hq
      · exact (List.getElem?_eq_some_iff.mp ht).1
      · exact hg.2.1.2.1 q hq
  · cases hlk
/-- an element of a row of ints is read -/
theorem V_iald (X : mXf G l own nL rt ini cc d c0 s0 lim scr p R s m args meth c) {k n : Nat} {i : Int} {r : List mVal} (ht : h.1.1[k]? = some (0, n)) (hi0 : 0 ≤ i) (hi1 : i < (n : Int)) (hd : decode cc pc = .ok (.iaload, 1))
    (kk : mV G p l e R s m args below meth c Q nL c0 s0 (pc + 1) lv (vi (h.2 k i) :: r) h) : mV G p l e R s m args below meth c Q nL c0 s0 pc lv (vi i :: vr k :: r) h := by
  intro h1 h2 h3 H locs ls hg hS hl
  obtain ⟨⟨hx, hb, hml, hown, hts⟩, hG, -⟩ := X
  have hi : inR i := (okt h2).1
  refine va_iald hx hb hG.1 hg.1 k 0 (mW_at ht) rfl (i_in hi hi0 hi1) hd ?_
  have e1 : (((Int32.ofInt i).toNatClampNeg : Nat) : Int) = i := by rw [i_clamp hi]; omega
  show W p l e R s m args below meth c H locs (h.1.1.length - c0) (mtot h.1.1 - s0) Q (F0 m (pc + 1) ls (.int (Int32.ofInt (h.2 k (((Int32.ofInt i).toNatClampNeg : Nat) : Int))) :: r.map (toV G)))
  rw [e1]
  exact kk h1 (okc (hg.2.2 _ _) (okt (okt h2).2).2) h3 H locs ls hg hS hl
theorem V_zald (X : mXf G l own nL rt ini cc d c0 s0 lim scr p R s m args meth c) {k n : Nat} {i : Int} {r : List mVal} (ht : h.1.1[k]? = some (1, n)) (hi0 : 0 ≤ i) (hi1 : i < (n : Int)) (hd : decode cc pc = .ok (.baload, 1))
    (kk : mV G p l e R s m args below meth c Q nL c0 s0 (pc + 1) lv (vi (h.2 k i) :: r) h) : mV G p l e R s m args below meth c Q nL c0 s0 pc lv (vi i :: vr k :: r) h := by
  intro h1 h2 h3 H locs ls hg hS hl
  obtain ⟨⟨hx, hb, hml, hown, hts⟩, hG, -⟩ := X
  have hi : inR i := (okt h2).1
  refine va_zald hx hb hG.1 hg.1 k 1 (mW_at ht) rfl (i_in hi hi0 hi1) hd ?_
  have e1 : (((Int32.ofInt i).toNatClampNeg : Nat) : Int) = i := by rw [i_clamp hi]; omega
  show W p l e R s m args below meth c H locs (h.1.1.length - c0) (mtot h.1.1 - s0) Q (F0 m (pc + 1) ls (.int (Int32.ofInt (h.2 k (((Int32.ofInt i).toNatClampNeg : Nat) : Int))) :: r.map (toV G)))
  rw [e1]
  exact kk h1 (okc (hg.2.2 _ _) (okt (okt h2).2).2) h3 H locs ls hg hS hl
theorem V_iast (X : mXf G l own nL rt ini cc d c0 s0 lim scr p R s m args meth c) {k n : Nat} {i v : Int} {r : List mVal} (ht : h.1.1[k]? = some (0, n)) (hi0 : 0 ≤ i) (hi1 : i < (n : Int)) (hd : decode cc pc = .ok (.iastore, 1))
    (kk : mV G p l e R s m args below meth c Q nL c0 s0 (pc + 1) lv r (h.1, mupd h.2 k i v)) : mV G p l e R s m args below meth c Q nL c0 s0 pc lv (vi v :: vi i :: vr k :: r) h := by
  intro h1 h2 h3 H locs ls hg hS hl
  obtain ⟨⟨hx, hb, hml, hown, hts⟩, hG, -⟩ := X
  have hv : inR v := (okt h2).1
  have hi : inR i := (okt (okt h2).2).1
  refine va_iast hx hb hG.1 hg.1 (mW_D G h) hS k 0 (mW_at ht) rfl (i_in hi hi0 hi1) hd (fun H1 locs1 hP1 _ hS1 => ?_)
  refine kk h1 (okt (okt (okt h2).2).2).2 h3 H1 locs1 ls ⟨?_, hg.2.1, mupd_in hg.2.2 hv⟩ hS1 hl
  rw [mW_set (h := h) (h' := (h.1, mupd h.2 k i v)) ht rfl (fun j hj => ⟨mupd_o _ _ _ hj, rfl⟩)]
  have e3 : wentF G ((h.1, mupd h.2 k i v).2 k) (mrf (h.1, mupd h.2 k i v) k) (0, n) = .inl (gI G, n, .inl (upd (fun j : Nat => Int32.ofInt (h.2 k (j : Nat))) (Int32.ofInt i).toNatClampNeg (Int32.ofInt v))) := by
    show Sum.inl (gI G, n, Sum.inl (fun j : Nat => Int32.ofInt (mupd h.2 k i v k (j : Nat)))) = _
    rw [mupd_k, arr_upd _ hi hi0]
  rw [e3]
  exact hP1
theorem V_zast (X : mXf G l own nL rt ini cc d c0 s0 lim scr p R s m args meth c) {k n : Nat} {i v : Int} {r : List mVal} (ht : h.1.1[k]? = some (1, n)) (hi0 : 0 ≤ i) (hi1 : i < (n : Int)) (hz : v = 0 ∨ v = 1) (hd : decode cc pc = .ok (.bastore, 1))
    (kk : mV G p l e R s m args below meth c Q nL c0 s0 (pc + 1) lv r (h.1, mupd h.2 k i v)) : mV G p l e R s m args below meth c Q nL c0 s0 pc lv (vi v :: vi i :: vr k :: r) h := by
  intro h1 h2 h3 H locs ls hg hS hl
  obtain ⟨⟨hx, hb, hml, hown, hts⟩, hG, -⟩ := X
  have hv : inR v := (okt h2).1
  have hi : inR i := (okt (okt h2).2).1
  refine va_zast hx hb hG.1 hg.1 (mW_D G h) hS k 1 (mW_at ht) rfl (i_in hi hi0 hi1) hd (fun H1 locs1 hP1 _ hS1 => ?_)
  have en : vp_nar .boolean (Int32.ofInt v) = Int32.ofInt v := by rcases hz with rfl | rfl <;> decide
  rw [en] at hP1
  refine kk h1 (okt (okt (okt h2).2).2).2 h3 H1 locs1 ls ⟨?_, hg.2.1, mupd_in hg.2.2 hv⟩ hS1 hl
  rw [mW_set (h := h) (h' := (h.1, mupd h.2 k i v)) ht rfl (fun j hj => ⟨mupd_o _ _ _ hj, rfl⟩)]
  have e3 : wentF G ((h.1, mupd h.2 k i v).2 k) (mrf (h.1, mupd h.2 k i v) k) (1, n) = .inl (gZ G, n, .inl (upd (fun j : Nat => Int32.ofInt (h.2 k (j : Nat))) (Int32.ofInt i).toNatClampNeg (Int32.ofInt v))) := by
    show Sum.inl (gZ G, n, Sum.inl (fun j : Nat => Int32.ofInt (mupd h.2 k i v k (j : Nat)))) = _
    rw [mupd_k, arr_upd _ hi hi0]
  rw [e3]
  exact hP1
/-- an element of a row of references -/
theorem V_aald (X : mXf G l own nL rt ini cc d c0 s0 lim scr p R s m args meth c) {k n t : Nat} {i : Int} {r : List mVal} (ht : h.1.1[k]? = some (2, n)) (hi0 : 0 ≤ i) (hi1 : i < (n : Int)) (hr : h.1.2.lookup (k, i.toNat) = some t) (hd : decode cc pc = .ok (.aaload, 1))
    (kk : mV G p l e R s m args below meth c Q nL c0 s0 (pc + 1) lv (vr t :: r) h) : mV G p l e R s m args below meth c Q nL c0 s0 pc lv (vi i :: vr k :: r) h := by
  intro h1 h2 h3 H locs ls hg hS hl
  obtain ⟨⟨hx, hb, hml, hown, hts⟩, hG, -⟩ := X
  have hi : inR i := (okt h2).1
  refine va_aldq (C := nR 3) hx hb hG.1 hg.1 k 2 (mW_at ht) rfl (i_in hi hi0 hi1) hd ?_
  show W p l e R s m args below meth c H locs (h.1.1.length - c0) (mtot h.1.1 - s0) Q (F0 m (pc + 1) ls (va_rf ((h.1.2.lookup (k, (Int32.ofInt i).toNatClampNeg)).map (gSz G + ·)) :: r.map (toV G)))
  rw [i_clamp hi, hr]
  exact kk h1 (okc trivial (okt (okt h2).2).2) h3 H locs ls hg hS hl
theorem V_aast (X : mXf G l own nL rt ini cc d c0 s0 lim scr p R s m args meth c) {k n v nv : Nat} {i : Int} {r : List mVal} (ht : h.1.1[k]? = some (2, n)) (hv : h.1.1[v]? = some (6, nv)) (hi0 : 0 ≤ i) (hi1 : i < (n : Int)) (hd : decode cc pc = .ok (.aastore, 1))
    (kk : mV G p l e R s m args below meth c Q nL c0 s0 (pc + 1) lv r ((h.1.1, ((k, i.toNat), v) :: h.1.2), h.2)) : mV G p l e R s m args below meth c Q nL c0 s0 pc lv (vr v :: vi i :: vr k :: r) h := by
  intro h1 h2 h3 H locs ls hg hS hl
  obtain ⟨⟨hx, hb, hml, hown, hts⟩, hG, -⟩ := X
  have hi : inR i := (okt (okt h2).2).1
  refine va_astq (r := (nR 3, nT 3, nN 3)) hx hb hG.1 hg.1 (mW_D G h) hS k 2 v 3 (mW_at ht) rfl (mW_at hv) (cls_at (by decide)) (i_in hi hi0 hi1) hd (fun H1 locs1 hP1 _ hS1 => ?_)
  refine kk h1 (okt (okt (okt h2).2).2).2 h3 H1 locs1 ls ⟨?_, ⟨hg.2.1.1, fun q hq => ?_, hg.2.1.2.2⟩, hg.2.2⟩ hS1 hl
  · rw [mW_set (h := h) (h' := ((h.1.1, ((k, i.toNat), v) :: h.1.2), h.2)) ht rfl (fun j hj => ⟨rfl, by first | (rw [mrf_cons, if_neg hj]; done) | (rw [mrf_cons, if_neg hj]; rfl)⟩)]
    have e3 : wentF G (((h.1.1, ((k, i.toNat), v) :: h.1.2), h.2).2 k) (mrf ((h.1.1, ((k, i.toNat), v) :: h.1.2), h.2) k) (2, n) = .inl (gS G, n, .inr (.inr (.inr (.inr (va_up (fun j : Nat => (mrf h k j).map (gSz G + ·)) (Int32.ofInt i).toNatClampNeg (some (gSz G + v))))))) := by
      rw [mrf_cons, if_pos rfl, i_clamp hi]
      show Sum.inl (gS G, n, Sum.inr (Sum.inr (Sum.inr (Sum.inr (fun j : Nat => ((fun x => if x = i.toNat then some v else mrf h k x) j).map (gSz G + ·)))))) = _
      congr 7
      funext j
      unfold va_up
      by_cases hj : j = i.toNat
      · simp [hj]
      · simp [hj]
    rw [e3]
    exact hP1
  · rcases List.mem_cons.mp hq with rfl | hq
    · exact (List.getElem?_eq_some_iff.mp ht).1
    · exact hg.2.1.2.1 q hq
end
