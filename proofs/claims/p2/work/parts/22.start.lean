/-! THE CLAIM OUT OF ONE WALK OF THE LAW'S BODY. Your part is whole_start (and what it stands on); all else here is the same for every law, but numbers. -/
def R_law : String := "SamplerLawLaw"
def lw_P (b : Addr) (xs : List Int32) (args : Array Value) (s : State) : Prop := args = #[.ref b] ∧ s.IntsAt b xs ∧ xs.length ≤ 320 ∧ (Jvm.Cond.and given_1 narrow_1).before args s = true
def lw_Q (_ : Array Value) (s : State) (o : Outcome) (t : State) : Prop := o = .returned (some (.int 1)) ∧ Framed s o t [] 600000 7302250
def lw_Z (below : List Frame) (a : Array Value) (s : State) : State → Prop := fun t => ∃ o, t.status = .running ∧ Ended t below o ∧ lw_Q a s o t
/-- the law's own end, with 1 on the stack, nothing written that was there before, its room as the claim has it -/
theorem lw_ret {p : Program} {l : Launch} {e : Env} {s : State} {m : MethodId} {below : List Frame} {meth : Method} {c : Code} {b : Nat} (hx : p.tables.exec = Jvm.exec) (hb : c.code = code) (hr : meth.sig.returnType = ret) (hlocks : meth.locks = false) {pc : Nat} {H : Heap} {ls : Array Slot} (hdg : decode code pc = .ok (.ireturn, 1)) : W p l e room_1 s m #[Value.ref b] below meth c H [] 600000 7302250 (lw_Z below #[Value.ref b] s) (F0 m pc ls [.int 1]) := by
  intro T hT X
  obtain ⟨fs, hret, hrun, hended, hW, hframe⟩ := X.leave (v := some (.int 1)) (hlocks := hlocks) (fun h => by rw [hr] at h; cases h)
  have hmeth' : T.vm.method? m = some meth := X.method'
  refine ⟨T.setFrames fs, ?_, .returned (some (.int 1)), hrun, hended, rfl, ⟨_, rfl⟩, hW, hframe⟩
  jvm_step X.here [X.here.top, hx, hb, hdg, hmeth', hr, ret, narrow_b1]
  (try refine ⟨rfl, ?_⟩); (try refine ⟨rfl, ?_⟩)
  first | (intro acts; rw [hret _ acts rfl rfl rfl]) | rw [hret _ _ rfl rfl rfl]
  exact Steps.refl _
/-- what holds at the law's entry: the machine, the code, the tables' words (any of lw_tbl by 'hts w (by decide +kernel)'), the script of L ints xs at the cell b, what the Statement gives of the start (any of its parts by flat_of_before) -/
def lw_At (p : Program) (s : State) (m : MethodId) (meth : Method) (c : Code) (b L : Nat) (xs : Nat → Int32) : Prop :=
  p.tables.exec = Jvm.exec ∧ c.code = code ∧ meth.sig.returnType = ret ∧ c.maxLocals = 4 ∧ s.vm.findClass R_law = some m.cls ∧ (∀ w ∈ lw_tbl, w.before #[Value.ref b] s = true) ∧ va_X b L xs s s.heap ∧ b < s.heap.size ∧ meth.locks = false ∧ (Jvm.Cond.and given_1 narrow_1).before #[Value.ref b] s = true

/-! THE CLAIM'S START: out of what the Statement gives, a world for the abstract machine -/
def nTm (i : Nat) : Term := .string (nR 4) (lSt.getD i 0)
abbrev nGv : List Jvm.Cond := flatC (Jvm.Cond.and given_1 narrow_1)
theorem nv_ex : (List.range 6).all (fun i => decide (Jvm.Cond.exactly (nTm i) "java/lang/String" ∈ nGv)) = true := by decide +kernel
theorem nv_co : (List.range 6).all (fun i => decide (Jvm.Cond.eq (.field (nTm i) "java/lang/String" "coder" "B") (.int 0) ∈ nGv)) = true := by decide +kernel
theorem nv_ar : (List.range 6).all (fun i => decide (Jvm.Cond.arrayOf (.field (nTm i) "java/lang/String" "value" "[B") .byte ∈ nGv)) = true := by decide +kernel
theorem nv_le : (List.range 6).all (fun i => decide (Jvm.Cond.eq (.length (.field (nTm i) "java/lang/String" "value" "[B")) (.int (Int32.ofNat (slen.getD i 0))) ∈ nGv)) = true := by decide +kernel
theorem nv_el : (List.range 6).all (fun i => (List.range (slen.getD i 0)).all fun j => decide (Jvm.Cond.eq (.elem (.field (nTm i) "java/lang/String" "value" "[B") (.int (Int32.ofNat j))) (.int ((sbyt.getD i []).getD j 0)) ∈ nGv)) = true := by decide +kernel
theorem nv_ne : (List.range 6).all (fun i => (List.range 6).all fun j => decide (i = j) || decide (Jvm.Cond.not (Jvm.Cond.eq (nTm i) (nTm j)) ∈ nGv) || decide (Jvm.Cond.not (Jvm.Cond.eq (nTm j) (nTm i)) ∈ nGv)) = true := by decide +kernel
theorem nv_cs : Jvm.Cond.eq (.static "java/lang/String" "COMPACT_STRINGS" "Z") (.int 1) ∈ nGv := by decide +kernel
theorem nv_sf : Jvm.Cond.isRef (.static "jdk/internal/util/Preconditions" "SIOOBE_FORMATTER" "Ljava/util/function/BiFunction;") ∈ nGv := by decide +kernel
theorem al_of {n : Nat} {f : Nat → Bool} (h : (List.range n).all f = true) {i : Nat} (hi : i < n) : f i = true := List.all_eq_true.mp h i (List.mem_range.mpr hi)
set_option maxHeartbeats 4000000 in
theorem g_start {p : Program} {s : State} {m : MethodId} {meth : Method} {c : Code} {b L : Nat} {xs : Nat → Int32} (C0 : lw_At p s m meth c b L xs) : ∃ G : mG, gSz G = s.heap.size ∧ gB G = b ∧ gW G s s.heap := by
  obtain ⟨hx, hb, hr, hml, hown, hts, hX, hbl, hlocks, hgv⟩ := id C0
  have hgs := flat_of_before _ hgv
  have htw : ∀ w ∈ mWS, w.before #[Value.ref b] s = true := fun w hw => hts w (List.mem_filter.mp hw).1
  -- the objects
  have hk : ∀ t : Nat, ∃ q : ClassId × (Nat → Nat), t < 7 → u_Kn s (nR t) (nT t) (nN t) q.1 q.2 := by
    intro t
    by_cases ht : t < 7
    · obtain ⟨c0, iS, h⟩ := u_known (C := nR t) (T := nT t) (N := nN t) (n := nN t) htw (u_in ht) (htw _ (wAt_in (nIns_w t (by simp; omega)) rfl))
      exact ⟨(c0, iS), fun _ => h⟩
    · exact ⟨(0, fun _ => 0), fun h => absurd h ht⟩
  obtain ⟨D, hD⟩ := Classical.axiomOfChoice hk
  -- the rows
  obtain ⟨cI, kI, pI, hcI, hkI, hkI2⟩ := Cond.arrayClass_spec (htw _ (wAt_in pFix_w.2.2.1 rfl))
  obtain ⟨cZ, kZ, pZ, hcZ, hkZ, hkZ2⟩ := Cond.arrayClass_spec (htw _ (wAt_in pFix_w.2.2.2 rfl))
  have hAO : va_AO (nR 3) s := va_AO.of (hts _ ao_w)
  obtain ⟨pS, cS, kS, hpS, -, hkS, hkS2, hcS⟩ := Cond.arrayOver_spec (hts _ ao_w)
  -- the literals
  have hA : ∀ a : Nat, a < s.heap.size → ¬ (fun q : Nat => s.heap.size ≤ q) a := fun a h q => Nat.not_le.mpr h q
  obtain ⟨adK, adV, hS, hev⟩ := vk_Sof (args := #[Value.ref b]) (s := s) (N := 6) (tm := nTm) (len := slen) (byt := sbyt) (A := fun q : Nat => s.heap.size ≤ q)
    (fun i hi => by rw [(s_len i hi).1]; have := (s_len i hi).2; omega)
    (fun i hi => hgs _ (of_decide_eq_true (al_of nv_ex hi))) (fun i hi => hgs _ (of_decide_eq_true (al_of nv_co hi))) (fun i hi => hgs _ (of_decide_eq_true (al_of nv_ar hi))) (fun i hi => hgs _ (of_decide_eq_true (al_of nv_le hi)))
    (fun i hi j hj => hgs _ (of_decide_eq_true (al_of (al_of nv_el hi) hj)))
    (fun i j hi hj hij => by
      have h := al_of (al_of nv_ne hi) hj
      simp only [Bool.or_eq_true, decide_eq_true_eq] at h
      rcases h with (h | h) | h
      · exact absurd h hij
      · exact Or.inl (hgs _ h)
      · exact Or.inr (hgs _ h)) hA
  refine ⟨(s.heap.size, b, adK, (fun t => (D t).1, fun t => (D t).2), cI, cZ, cS), rfl, rfl, ⟨fun k q hq => ?_, fun k q hq => ?_⟩, fun q hq => va_Nw.of rfl (hts _ (nest_w q hq)), hAO, fun i hi => ?_, ⟨adV, hS⟩, ?_, ?_⟩
  · have hk7 : k < 7 := by
      have := (List.getElem?_eq_some_iff.mp hq).1
      simpa [classes] using this
    rw [cls_at hk7] at hq
    cases hq
    exact hD k hk7
  · match k, hq with
    | 0, hq => cases hq; exact ⟨fun n z => ⟨fun k h => (by cases h), kI, hkI, pI, hkI2⟩, hcI⟩
    | 1, hq => cases hq; exact ⟨fun n z => ⟨fun k h => (by cases h), kZ, hkZ, pZ, hkZ2⟩, hcZ⟩
    | 2, hq => cases hq; exact ⟨fun n z => ⟨fun k h => (by cases h), kS, hkS, pS, hkS2⟩, kS, pS, hkS, hkS2, hpS, hcS⟩
    | k + 3, hq => simp [mtys] at hq
  · have hm : i ∈ [0, 1, 2, 3, 4, 5] := by simp; omega
    exact vk_R.of (A := #[Value.ref b]) (hts _ (str_w i hm)) (hev i hi)
  · exact va_Zof (args := #[Value.ref b]) (hts _ ls_w.1) (htw _ wJ_iS) (va_eqt (hgs _ nv_cs)) hA
  · exact va_Zqof (args := #[Value.ref b]) (hts _ ls_w.2) (htw _ wJ_iPC) (hgs _ nv_sf) hA
/-- the law, as the abstract machine has it -/
def lawP (L : Nat) (xs : Nat → Int) : Prop := ∀ K, mClo m_W_law (mR3 10) (100, 5000) (L + 1, xs) (fun v _ => v = some (vi 1)) K → K 0 [(0, vs 0)] [] (([], []), fun _ _ => 0)
set_option maxHeartbeats 4000000 in
theorem start_of {p : Program} {e : Env} {s : State} {m : MethodId} {below : List Frame} {meth : Method} {c : Code} (l : Launch) {b L : Nat} {xs : Nat → Int32} (hL : L ≤ 320) (C0 : lw_At p s m meth c b L xs) (hlaw : lawP L (fun j => (xs j).toInt)) : W p l e room_1 s m #[Value.ref b] below meth c s.heap [] 0 0 (lw_Z below #[Value.ref b] s) (entryFrame m ([Value.ref b] : List Value).toArray 4) := by
  obtain ⟨G, hsz, hgb, hG⟩ := g_start C0
  obtain ⟨hx, hb, hr, hml, hown, hts, hX, hbl, hlocks, hgv⟩ := id C0
  have htw : ∀ w ∈ mWS, w.before #[Value.ref b] s = true := fun w hw => hts w (List.mem_filter.mp hw).1
  have exs : (fun j => Int32.ofInt ((xs j).toInt)) = xs := by funext j; exact Int32.ofInt_toInt _
  have X : mXf G l 8 4 (some .boolean) false code 10 0 0 (100, 5000) (L + 1, fun j => (xs j).toInt) p room_1 s m #[Value.ref b] meth c :=
    ⟨⟨hx, hb, hml, hown, htw⟩, hG, ⟨by omega, by omega⟩, fun q => (by cases q), ⟨by decide, by decide⟩, ⟨by decide, by decide⟩, Or.inr ⟨by show va_X (gB G) L (fun j => Int32.ofInt ((xs j).toInt)) s s.heap; rw [hgb, exs]; exact hX, by rw [hgb, hsz]; exact hbl, fun j => i_ti _, by show L + 1 ≤ 1000; omega⟩⟩
  have hclo : mClo m_W_law (mR3 10) (100, 5000) (L + 1, fun j => (xs j).toInt) (fun v _ => v = some (vi 1)) (mV G p l e room_1 s m #[Value.ref b] below meth c (lw_Z below #[Value.ref b] s) 4 0 0) := by
    intro i pc rows hi lv st hh hrun
    have hbk : bOK 8 code 4 (some .boolean) false 9 pc rows = true := law_ok (pc, rows) (List.mem_of_getElem? hi)
    refine mV_rows X (strMet_ok G l) (by decide) (fun y' as' h' r' hc hn => mMet_of (strMet_ok G l) 10 y' as' h' r' hc hn) ?_ ?_ ?_ rows pc lv st hh hbk hrun
    · intro pc lv v h2 hd hty hret
      intro h1 h2' h3 H locs ls hg1 hS hl
      have hv : v = 1 := Sum.inl.inj (Option.some.inj hret)
      subst hv
      refine va_forget (fun q hq => by have := hS.2.2 q hq; unfold gA at this; omega) ?_
      refine W.widen (k := 600000) (n := 7302250) (by have := h3.2.1; exact this) (by have := h3.2.2; exact this) ?_
      exact lw_ret hx hb hr hlocks hd
    · intro pc lv v h2 hd hty hret; cases hty
    · intro pc lv h2 hd hty hret; cases hty
  have hK := hlaw _ hclo
  have hl := lv_entry [Value.ref b] (n := 4) (Nat.le_of_ble_eq_true rfl)
  rw [lg_entry_eq]
  have eb : toV G (vs 0) = .ref b := by show Value.ref (gB G) = _; rw [hgb]
  have hl' : lv_has (lg_sl [Value.ref b] ++ List.replicate (4 - (lg_sl [Value.ref b]).length) Slot.unset).toArray 4 (tLV G [(0, vs 0)]) := by
    show lv_has _ 4 [(0, toV G (vs 0))]
    rw [eb]
    exact hl
  have hW := hK (fun q hq => by rw [List.mem_singleton.mp hq]; exact trivial) (fun _ q => absurd q List.not_mem_nil) ⟨⟨Nat.le_refl _, Nat.le_refl _⟩, Nat.zero_le _, Nat.zero_le _⟩ s.heap [] _ ⟨fun k q h => by simp [mW] at h, ⟨fun k t n h => by simp at h, fun q hq => absurd hq List.not_mem_nil, fun q hq => absurd hq List.not_mem_nil⟩, fun _ _ => inR_0⟩ va_S.rf hl'
  exact hW
