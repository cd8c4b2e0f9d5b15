/-! SOUNDNESS 5: new cells, copies, calls -/
theorem mtot_app (l : List (Nat × Nat)) (q : Nat × Nat) : mtot (l ++ [q]) = mtot l + q.2 := by simp [mtot]
theorem mzero_k (m : mMem) (k : Nat) : mzero m k k = fun _ => 0 := by funext x; simp [mzero]
theorem mzero_o (m : mMem) {k j : Nat} (hj : j ≠ k) : mzero m k j = m j := by funext x; simp [mzero, hj]
theorem mrf_none {h : mHp} (hs : ∀ q ∈ h.1.2, q.1.1 < h.1.1.length) : mrf h h.1.1.length = fun _ => none := by
  funext j
  unfold mrf
  cases hq : h.1.2.lookup (h.1.1.length, j) with
  | none => rfl
  | some t => exact absurd (hs _ (lk_mem hq)) (Nat.lt_irrefl _)
theorem mW_push {G : mG} {h : mHp} (q : Nat × Nat) (hs : ∀ q ∈ h.1.2, q.1.1 < h.1.1.length) : mW G ((h.1.1 ++ [q], h.1.2), mzero h.2 h.1.1.length) = mW G h ++ [(gSz G + h.1.1.length, wentF G (fun _ => 0) (fun _ => none) q)] := by
  refine List.ext_getElem? fun j => ?_
  have hlen : (mW G h).length = h.1.1.length := by simp [mW]
  simp only [mW, List.getElem?_mapIdx]
  rcases Nat.lt_trichotomy j h.1.1.length with hj | hj | hj
  · rw [List.getElem?_append_left hj, List.getElem?_append_left (by simpa [mW] using hj), List.getElem?_mapIdx]
    have e1 : mzero h.2 h.1.1.length j = h.2 j := mzero_o _ (by omega)
    show Option.map (fun q => (gSz G + j, wentF G (mzero h.2 h.1.1.length j) (mrf h j) q)) _ = _
    rw [e1]
  · subst hj
    rw [List.getElem?_append_right (Nat.le_refl _), List.getElem?_append_right (by simp [mW])]
    simp only [Nat.sub_self, List.length_mapIdx]
    show some (gSz G + h.1.1.length, wentF G (mzero h.2 h.1.1.length h.1.1.length) (mrf h h.1.1.length) q) = _
    rw [mzero_k, mrf_none hs]
    rfl
  · rw [List.getElem?_eq_none (by simp; omega), List.getElem?_eq_none (by simp [mW]; omega)]
    rfl
theorem sh_push {sh : mSh} {t n : Nat} (hs : shOK sh) (hn : n ≤ 1000) (ht : ∀ t', t = t' + 3 → n = nN t' ∧ t' < 7) : shOK (sh.1 ++ [(t, n)], sh.2) := by
  refine ⟨fun k t' n' hk => ?_, fun q hq => ?_, fun q hq => ?_⟩
  · rcases Nat.lt_trichotomy k sh.1.length with hj | hj | hj
    · rw [show (sh.1 ++ [(t, n)], sh.2).1[k]? = sh.1[k]? from List.getElem?_append_left hj] at hk
      exact hs.1 k t' n' hk
    · subst hj
      rw [show (sh.1 ++ [(t, n)], sh.2).1[sh.1.length]? = some (t, n) by simp] at hk
      cases hk
      exact ht _ rfl
    · rw [show (sh.1 ++ [(t, n)], sh.2).1[k]? = none from List.getElem?_eq_none (by simp; omega)] at hk
      cases hk
  · have := hs.2.1 q hq
    show q.1.1 < (sh.1 ++ [(t, n)]).length
    simp
    omega
  · rcases List.mem_append.mp hq with hq | hq
    · exact hs.2.2 q hq
    · rw [List.mem_singleton.mp hq]
      exact hn
section
variable {G : mG} {l : Launch} {own nL : Nat} {rt : Option FieldType} {ini : Bool} {cc : ByteArray} {d c0 s0 : Nat} {lim : Nat × Nat} {scr : Nat × (Nat → Int)} {p : Program} {e : Env} {R : Room} {s : State} {m : MethodId} {args : Array Value} {below : List Frame} {meth : Method} {c : Code} {Q : State → Prop} {pc : Nat} {lv : mLV} {st : List mVal} {h : mHp}
/-- a new cell came: its address, and what follows -/
theorem V_born {t n q : Nat} {E : va_E} {r : List mVal} {H1 : Heap} {locs : List Loc} {ls : Array Slot} {pc' : Nat} (X : mXf G l own nL rt ini cc d c0 s0 lim scr p R s m args meth c) (h1 : ∀ q ∈ lv, okV q.2) (h2 : ∀ v ∈ r, okV v) (h3 : (c0 ≤ h.1.1.length ∧ s0 ≤ mtot h.1.1) ∧ h.1.1.length ≤ c0 + R.cells ∧ mtot h.1.1 ≤ s0 + R.slots) (hcap : h.1.1.length + 1 ≤ lim.1 ∧ mtot h.1.1 + n ≤ lim.2) (hn1 : n ≤ 1000) (hE : E = wentF G (fun _ => 0) (fun _ => none) (t, n)) (hsh : shOK h.1) (hin : ∀ k i, inR (h.2 k i)) (ht : ∀ t', t = t' + 3 → n = nN t' ∧ t' < 7)
    (hP1 : va_P (gD G) classes (mW G h ++ [(q, E)]) H1) (hD1 : va_D (gA G) (mW G h ++ [(q, E)])) (hS1 : va_S (gA G) s.heap H1 locs) (hl : lv_has ls nL (tLV G lv))
    (kk : mV G p l e R s m args below meth c Q nL c0 s0 pc' lv (vr h.1.1.length :: r) ((h.1.1 ++ [(t, n)], h.1.2), mzero h.2 h.1.1.length)) : W p l e R s m args below meth c H1 locs (h.1.1.length - c0 + 1) (mtot h.1.1 - s0 + n) Q (F0 m pc' ls (.ref q :: r.map (toV G))) := by
  refine W_sz (fun hsz => ?_)
  have hlen : (mW G h).length = h.1.1.length := by simp [mW]
  have hat : (mW G h ++ [(q, E)])[h.1.1.length]? = some (q, E) := by
    rw [List.getElem?_append_right (by omega), hlen, Nat.sub_self]; rfl
  have hq1 : q < H1.size := (hP1 _ _ hat).lt
  have hq2 : gSz G ≤ q := hD1.2 _ _ hat
  have hq : q = gSz G + h.1.1.length := by
    have hs := X.2.2.1.2
    rcases Nat.lt_or_ge q (gSz G + h.1.1.length) with hlt | hge
    · exfalso
      obtain ⟨x, hx⟩ : ∃ x, h.1.1[q - gSz G]? = some x := ⟨_, List.getElem?_eq_getElem (by omega)⟩
      have hk := mW_at (G := G) hx
      have hk2 : (mW G h ++ [(q, E)])[q - gSz G]? = some (gSz G + (q - gSz G), wentF G (h.2 (q - gSz G)) (mrf h (q - gSz G)) x) := by
        rw [List.getElem?_append_left (by omega)]; exact hk
      have := hD1.1 _ _ _ _ hk2 hat (by show gSz G + (q - gSz G) = q; omega)
      omega
    · omega
  subst hq
  have e1 : (h.1.1 ++ [(t, n)]).length - c0 = h.1.1.length - c0 + 1 := by simp; omega
  have e2 : mtot (h.1.1 ++ [(t, n)]) - s0 = mtot h.1.1 - s0 + n := by rw [mtot_app]; have := h3.1.2; simp only; omega
  have hcp := X.2.2.2.2.2.1
  have hk := kk h1 (okc trivial h2) ⟨⟨by show c0 ≤ (h.1.1 ++ [(t, n)]).length; simp; omega, by show s0 ≤ mtot (h.1.1 ++ [(t, n)]); rw [mtot_app]; omega⟩, by show (h.1.1 ++ [(t, n)]).length ≤ _; have := hcap.1; have := hcp.1; simp; omega, by show mtot (h.1.1 ++ [(t, n)]) ≤ _; rw [mtot_app]; have := hcap.2; have := hcp.2; simp only; omega⟩ H1 locs ls ⟨?_, sh_push hsh hn1 ht, fun k i => ?_⟩ hS1 hl
  · have e1' : ((h.1.1 ++ [(t, n)], h.1.2), mzero h.2 h.1.1.length).1.1.length - c0 = h.1.1.length - c0 + 1 := e1
    have e2' : mtot ((h.1.1 ++ [(t, n)], h.1.2), mzero h.2 h.1.1.length).1.1 - s0 = mtot h.1.1 - s0 + n := e2
    rw [e1', e2'] at hk
    exact hk
  · rw [mW_push _ hsh.2.1, ← hE]
    exact hP1
  · show inR (mzero h.2 h.1.1.length k i)
    unfold mzero
    split
    · exact inR_0
    · exact hin _ _
theorem V_new (X : mXf G l own nL rt ini cc d c0 s0 lim scr p R s m args meth c) {idx a : Nat} (hlk : lkC own idx a = true) (hcap : h.1.1.length + 1 ≤ lim.1 ∧ mtot h.1.1 + nN a ≤ lim.2) (hd : decode cc pc = .ok (.new idx, 3))
    (kk : mV G p l e R s m args below meth c Q nL c0 s0 (pc + 3) lv (vr h.1.1.length :: st) ((h.1.1 ++ [(a + 3, nN a)], h.1.2), mzero h.2 h.1.1.length)) : mV G p l e R s m args below meth c Q nL c0 s0 pc lv st h := by
  intro h1 h2 h3 H locs ls hg hS hl
  obtain ⟨⟨hx, hb, hml, hown, hts⟩, hG, hsz, -, -, hcp, -⟩ := id X
  unfold lkC at hlk
  split at hlk
  · rename_i y pos hq
    have e1 := (eq_of_beq hlk).symm
    subst e1
    have hm := lk_mem hq
    have ha7 : a < 7 := by simpa using List.all_eq_true.mp lCl_b _ hm
    have hin7 : a ∈ [0, 1, 2, 3, 4, 5, 6] := by simp; omega
    have hin9 : a ∈ [0, 1, 2, 3, 4, 5, 6, 7, 8] := by simp; omega
    have hn1 : nN a ≤ 1000 := by
      rcases (show a = 0 ∨ a = 1 ∨ a = 2 ∨ a = 3 ∨ a = 4 ∨ a = 5 ∨ a = 6 by omega) with rfl | rfl | rfl | rfl | rfl | rfl | rfl <;> decide
    have hta : ∀ t', a + 3 = t' + 3 → nN a = nN t' ∧ t' < 7 := by
      intro t' e
      have e2 : a = t' := by omega
      subst e2
      exact ⟨rfl, ha7⟩
    refine va_new (C := nR a) (T := nT a) (N := nN a) (ci := a) (own := nR own) (index := idx) (fs := (List.range (nN a)).map (fvalF G (fun _ => 0) (fun _ => none) a)) hx hb hts (u_in ha7) (nTy a) (fun k hk => (nTy_of ha7 hk).1) hown (hts _ (wAt_in (lCl_w _ hm) rfl)) (hts _ (wAt_in (nIns_w a hin7) rfl)) (hts _ (wAt_in (nIni_w a hin9) rfl)) hG.1 hg.1 (mW_D G h) hS (fun q hq => Nat.le_trans hsz.1 hq) (cls_at ha7) (fun j hj => ?_) (by have := hcap.1; have := hcp.1; omega) (by have := hcap.2; have := hcp.2; omega) hd (fun q H1 hP1 hD1 hS1 => V_born X h1 h2 h3 hcap hn1 rfl hg.2.1 hg.2.2 hta hP1 hD1 hS1 hl kk)
    unfold vp_V
    rw [List.getD_eq_getElem?_getD, List.getElem?_map, List.getElem?_range hj]
    simp only [Option.map_some, Option.getD_some, fvalF]
    cases hr : nRf a j with
    | true =>
      obtain ⟨-, hk⟩ := (nTy_of ha7 hj).2.1 hr
      rcases hk with ⟨x, e⟩ | ⟨x, e⟩ <;> (rw [e]; rfl)
    | false =>
      obtain ⟨-, hk⟩ := (nTy_of ha7 hj).2.2 hr
      rcases hk with ⟨e, -⟩ | ⟨e, -⟩ <;> (rw [e]; rfl)
  · cases hlk
theorem V_newI (X : mXf G l own nL rt ini cc d c0 s0 lim scr p R s m args meth c) {n : Int} {r : List mVal} (hn : 0 ≤ n ∧ n ≤ 1000) (hcap : h.1.1.length + 1 ≤ lim.1 ∧ mtot h.1.1 + n.toNat ≤ lim.2) (hd : decode cc pc = .ok (.newarray .int, 2))
    (kk : mV G p l e R s m args below meth c Q nL c0 s0 (pc + 2) lv (vr h.1.1.length :: r) ((h.1.1 ++ [(0, n.toNat)], h.1.2), mzero h.2 h.1.1.length)) : mV G p l e R s m args below meth c Q nL c0 s0 pc lv (vi n :: r) h := by
  intro h1 h2 h3 H locs ls hg hS hl
  obtain ⟨⟨hx, hb, hml, hown, hts⟩, hG, hsz, -, -, hcp, -⟩ := id X
  have hi : inR n := (okt h2).1
  refine va_newa (ty := .int) (a0 := (n.toNat, .inl fun _ => 0)) (N' := n.toNat) hx hb (hts _ (wAt_in pFix_w.2.2.1 rfl)) rfl hG.1 hg.1 (mW_D G h) hS (fun q hq => Nat.le_trans hsz.1 hq) (fun cA => rfl) (by rw [show (0 : Int32) = Int32.ofInt 0 from rfl, i_lt hi inR_0]; omega) (i_clamp hi) (by show n.toNat * 4 ≤ _; omega) (by have := hcap.1; have := hcp.1; omega) (by have := hcap.2; have := hcp.2; omega) hd (fun q cA H1 hK1 hP1 hD1 hS1 => ?_)
  have e1 : s.vm.findClass ("[" ++ FieldType.int.toString) = some cA := (hK1.2 3 (cA, .int) rfl).2
  have e2 : s.vm.findClass ("[" ++ FieldType.int.toString) = some (gI G) := (hG.1.2 0 (gI G, .int) rfl).2
  have e3 : cA = gI G := Option.some.inj (e1.symm.trans e2)
  subst e3
  exact V_born (t := 0) X h1 (okt h2).2 h3 hcap (by omega) rfl hg.2.1 hg.2.2 (fun t' e => by omega) hP1 hD1 hS1 hl kk
theorem V_newZ (X : mXf G l own nL rt ini cc d c0 s0 lim scr p R s m args meth c) {n : Int} {r : List mVal} (hn : 0 ≤ n ∧ n ≤ 1000) (hcap : h.1.1.length + 1 ≤ lim.1 ∧ mtot h.1.1 + n.toNat ≤ lim.2) (hd : decode cc pc = .ok (.newarray .boolean, 2))
    (kk : mV G p l e R s m args below meth c Q nL c0 s0 (pc + 2) lv (vr h.1.1.length :: r) ((h.1.1 ++ [(1, n.toNat)], h.1.2), mzero h.2 h.1.1.length)) : mV G p l e R s m args below meth c Q nL c0 s0 pc lv (vi n :: r) h := by
  intro h1 h2 h3 H locs ls hg hS hl
  obtain ⟨⟨hx, hb, hml, hown, hts⟩, hG, hsz, -, -, hcp, -⟩ := id X
  have hi : inR n := (okt h2).1
  refine va_newa (ty := .boolean) (a0 := (n.toNat, .inl fun _ => 0)) (N' := n.toNat) hx hb (hts _ (wAt_in pFix_w.2.2.2 rfl)) rfl hG.1 hg.1 (mW_D G h) hS (fun q hq => Nat.le_trans hsz.1 hq) (fun cA => rfl) (by rw [show (0 : Int32) = Int32.ofInt 0 from rfl, i_lt hi inR_0]; omega) (i_clamp hi) (by show n.toNat * 1 ≤ _; omega) (by have := hcap.1; have := hcp.1; omega) (by have := hcap.2; have := hcp.2; omega) hd (fun q cA H1 hK1 hP1 hD1 hS1 => ?_)
  have e1 : s.vm.findClass ("[" ++ FieldType.boolean.toString) = some cA := (hK1.2 3 (cA, .boolean) rfl).2
  have e2 : s.vm.findClass ("[" ++ FieldType.boolean.toString) = some (gZ G) := (hG.1.2 1 (gZ G, .boolean) rfl).2
  have e3 : cA = gZ G := Option.some.inj (e1.symm.trans e2)
  subst e3
  exact V_born (t := 1) X h1 (okt h2).2 h3 hcap (by omega) rfl hg.2.1 hg.2.2 (fun t' e => by omega) hP1 hD1 hS1 hl kk
theorem V_newS (X : mXf G l own nL rt ini cc d c0 s0 lim scr p R s m args meth c) {idx : Nat} {n : Int} {r : List mVal} (hlk : lkC own idx 3 = true) (hn : 0 ≤ n ∧ n ≤ 1000) (hcap : h.1.1.length + 1 ≤ lim.1 ∧ mtot h.1.1 + n.toNat ≤ lim.2) (hd : decode cc pc = .ok (.anewarray idx, 3))
    (kk : mV G p l e R s m args below meth c Q nL c0 s0 (pc + 3) lv (vr h.1.1.length :: r) ((h.1.1 ++ [(2, n.toNat)], h.1.2), mzero h.2 h.1.1.length)) : mV G p l e R s m args below meth c Q nL c0 s0 pc lv (vi n :: r) h := by
  intro h1 h2 h3 H locs ls hg hS hl
  obtain ⟨⟨hx, hb, hml, hown, hts⟩, hG, hsz, -, -, hcp, -⟩ := id X
  have hi : inR n := (okt h2).1
  unfold lkC at hlk
  split at hlk
  · rename_i y pos hq
    have e1 := (eq_of_beq hlk).symm
    subst e1
    have hm := lk_mem hq
    refine va_newq (C := nR 3) (own := nR own) (index := idx) (N' := n.toNat) hx hb hown (hts _ (wAt_in (lCl_w _ hm) rfl)) hG.2.2.1 hG.1 hg.1 (mW_D G h) hS (fun q hq => Nat.le_trans hsz.1 hq) (by rw [show (0 : Int32) = Int32.ofInt 0 from rfl, i_lt hi inR_0]; omega) (i_clamp hi) (by omega) (by have := hcap.1; have := hcp.1; omega) (by have := hcap.2; have := hcp.2; omega) hd (fun q cA H1 hK1 hP1 hD1 hS1 => ?_)
    obtain ⟨_, _, _, _, _, e1⟩ := (hK1.2 3 (cA, .object (nR 3)) rfl).2
    obtain ⟨_, _, _, _, _, e2⟩ := (hG.1.2 2 (gS G, .object (nR 3)) rfl).2
    have e3 : cA = gS G := Option.some.inj (e1.symm.trans e2)
    subst e3
    exact V_born (t := 2) X h1 (okt h2).2 h3 hcap (by omega) rfl hg.2.1 hg.2.2 (fun t' e => by omega) hP1 hD1 hS1 hl kk
  · cases hlk
end
