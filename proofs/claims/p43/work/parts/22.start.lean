section
/-! THE CLAIM OUT OF ONE WALK OF THE LAW'S BODY. Your part is whole_start (and what it stands on); all else here is the same for every law, but numbers. -/
def R_law : String := "SamplerLawLaw"
def lw_P (b : Addr) (xs : List Int32) (args : Array Value) (s : State) : Prop := args = #[.ref b] ∧ s.IntsAt b xs ∧ xs.length ≤ 320 ∧ (Jvm.Cond.and given_1 narrow_1).before args s = true
def lw_Q (_ : Array Value) (s : State) (o : Outcome) (t : State) : Prop := o = .returned (some (.int 1)) ∧ Framed s o t [] 600000 7302250
def lw_Z (below : List Frame) (a : Array Value) (s : State) : State → Prop := fun t => ∃ o, t.status = .running ∧ Ended t below o ∧ lw_Q a s o t
/-- the law's own end, with 1 on the stack, nothing written that was there before, its room as the claim has it -/
theorem lw_ret {p : Program} {l : Launch} {e : Env} {s : State} {m : MethodId} {below : List Frame} {meth : Method} {c : Code} {b : Nat} (hx : p.tables.exec = Jvm.exec) (hb : c.code = code) (hr : meth.sig.returnType = ret) (hlocks : meth.locks = false) {pc : Nat} {H : Heap} {ls : Array Slot} (hdg : decode code pc = .ok (.ireturn, 1)) : W p l e room_1 s m #[Value.ref b] below meth c H [] 600000 7302250 (lw_Z below #[Value.ref b] s) (F0 m pc ls [.int 1]) := by
  intro T hT X
  obtain ⟨fs, hret, hrun, hended, hW, hframe⟩ := X.leave (v := some (.int 1)) (hlocks := hlocks) (fun h => by rw [hr] at h; cases h)
  have hmeth' : T.vm.method? m = some meth := X.method'
  refine ⟨T.setFrames fs, ?_, .returned (some (.int 1)), hrun, hended, rfl, ⟨_, rfl⟩, hW, hframe⟩
  jvm_step X.here [X.here.top, hx, hb, hdg, hmeth', hr, ret, narrow_b1]
  (try refine ⟨rfl, ?_⟩); (try refine ⟨rfl, ?_⟩)
  first | (intro acts; rw [hret _ acts rfl rfl rfl]) | rw [hret _ _ rfl rfl rfl]
  exact Steps.refl _
/-- what holds at the law's entry: the machine, the code, the tables' words (any of lw_tbl by 'hts w (by decide +kernel)'), the script of L ints xs at the cell b, what the Statement gives of the start (any of its parts by flat_of_before) -/
def lw_At (p : Program) (s : State) (m : MethodId) (meth : Method) (c : Code) (b L : Nat) (xs : Nat → Int32) : Prop :=
  p.tables.exec = Jvm.exec ∧ c.code = code ∧ meth.sig.returnType = ret ∧ c.maxLocals = 4 ∧ s.vm.findClass R_law = some m.cls ∧ (∀ w ∈ lw_tbl, w.before #[Value.ref b] s = true) ∧ va_X b L xs s s.heap ∧ b < s.heap.size ∧ meth.locks = false ∧ (Jvm.Cond.and given_1 narrow_1).before #[Value.ref b] s = true

/-! THE CLAIM'S START: out of what the Statement gives, a world for the abstract machine -/
def nTm (i : Nat) : Term := .string (nR 4) (lSt.getD i 0)
abbrev nGv : List Jvm.Cond := flatC (Jvm.Cond.and given_1 narrow_1)
theorem nv_ex : (List.range 6).all (fun i => decide (Jvm.Cond.exactly (nTm i) "java/lang/String" ∈ nGv)) = true := by decide +kernel
theorem nv_co : (List.range 6).all (fun i => decide (Jvm.Cond.eq (.field (nTm i) "java/lang/String" "coder" "B") (.int 0) ∈ nGv)) = true := by decide +kernel
theorem nv_ar : (List.range 6).all (fun i => decide (Jvm.Cond.arrayOf (.field (nTm i) "java/lang/String" "value" "[B") .byte ∈ nGv)) = true := by decide +kernel
theorem nv_le : (List.range 6).all (fun i => decide (Jvm.Cond.eq (.length (.field (nTm i) "java/lang/String" "value" "[B")) (.int (Int32.ofNat (slen.getD i 0))) ∈ nGv)) = true := by decide +kernel
theorem nv_el : (List.range 6).all (fun i => (List.range (slen.getD i 0)).all fun j => decide (Jvm.Cond.eq (.elem (.field (nTm i) "java/lang/String" "value" "[B") (.int (Int32.ofNat j))) (.int ((sbyt.getD i []).getD j 0)) ∈ nGv)) = true := by decide +kernel
theorem nv_ne : (List.range 6).all (fun i => (List.range 6).all fun j => decide (i = j) || decide (Jvm.Cond.not (Jvm.Cond.eq (nTm i) (nTm j)) ∈ nGv) || decide (Jvm.Cond.not (Jvm.Cond.eq (nTm j) (nTm i)) ∈ nGv)) = true := by decide +kernel
theorem nv_cs : Jvm.Cond.eq (.static "java/lang/String" "COMPACT_STRINGS" "Z") (.int 1) ∈ nGv := by decide +kernel
theorem nv_sf : Jvm.Cond.isRef (.static "jdk/internal/util/Preconditions" "SIOOBE_FORMATTER" "Ljava/util/function/BiFunction;") ∈ nGv := by decide +kernel
theorem al_of {n : Nat} {f : Nat → Bool} (h : (List.range n).all f = true) {i : Nat} (hi : i < n) : f i = true := List.all_eq_true.mp h i (List.mem_range.mpr hi)
set_option maxHeartbeats 4000000 in
theorem g_start {p : Program} {s : State} {m : MethodId} {meth : Method} {c : Code} {b L : Nat} {xs : Nat → Int32} (C0 : lw_At p s m meth c b L xs) : ∃ G : mG, gSz G = s.heap.size ∧ gB G = b ∧ gW G s s.heap := by
  obtain ⟨hx, hb, hr, hml, hown, hts, hX, hbl, hlocks, hgv⟩ := id C0
  have hgs := flat_of_before _ hgv
  have htw : ∀ w ∈ mWS, w.before #[Value.ref b] s = true := fun w hw => hts w (List.mem_filter.mp hw).1
  -- the objects
  have hk : ∀ t : Nat, ∃ q : ClassId × (Nat → Nat), t < 7 → u_Kn s (nR t) (nT t) (nN t) q.1 q.2 := by
    intro t
    by_cases ht : t < 7
    · obtain ⟨c0, iS, h⟩ := u_known (C := nR t) (T := nT t) (N := nN t) (n := nN t) htw (u_in ht) (htw _ (wAt_in (nIns_w t (by simp; omega)) rfl))
      exact ⟨(c0, iS), fun _ => h⟩
    · exact ⟨(0, fun _ => 0), fun h => absurd h ht⟩
  obtain ⟨D, hD⟩ := Classical.axiomOfChoice hk
  -- the rows
  obtain ⟨cI, kI, pI, hcI, hkI, hkI2⟩ := Cond.arrayClass_spec (htw _ (wAt_in pFix_w.2.2.1 rfl))
  obtain ⟨cZ, kZ, pZ, hcZ, hkZ, hkZ2⟩ := Cond.arrayClass_spec (htw _ (wAt_in pFix_w.2.2.2 rfl))
  have hAO : va_AO (nR 3) s := va_AO.of (hts _ ao_w)
  obtain ⟨pS, cS, kS, hpS, -, hkS, hkS2, hcS⟩ := Cond.arrayOver_spec (hts _ ao_w)
  -- the literals
  have hA : ∀ a : Nat, a < s.heap.size → ¬ (fun q : Nat => s.heap.size ≤ q) a := fun a h q => Nat.not_le.mpr h q
  obtain ⟨adK, adV, hS, hev⟩ := vk_Sof (args := #[Value.ref b]) (s := s) (N := 6) (tm := nTm) (len := slen) (byt := sbyt) (A := fun q : Nat => s.heap.size ≤ q)
    (fun i hi => by rw [(s_len i hi).1]; have := (s_len i hi).2; omega)
    (fun i hi => hgs _ (of_decide_eq_true (al_of nv_ex hi))) (fun i hi => hgs _ (of_decide_eq_true (al_of nv_co hi))) (fun i hi => hgs _ (of_decide_eq_true (al_of nv_ar hi))) (fun i hi => hgs _ (of_decide_eq_true (al_of nv_le hi)))
    (fun i hi j hj => hgs _ (of_decide_eq_true (al_of (al_of nv_el hi) hj)))
    (fun i j hi hj hij => by
      have h := al_of (al_of nv_ne hi) hj
      simp only [Bool.or_eq_true, decide_eq_true_eq] at h
      rcases h with (h | h) | h
      · exact absurd h hij
      · exact Or.inl (hgs _ h)
      · exact Or.inr (hgs _ h)) hA
  refine ⟨(s.heap.size, b, adK, (fun t => (D t).1, fun t => (D t).2), cI, cZ, cS), rfl, rfl, ⟨fun k q hq => ?_, fun k q hq => ?_⟩, fun q hq => va_Nw.of rfl (hts _ (nest_w q hq)), hAO, fun i hi => ?_, ⟨adV, hS⟩, ?_, ?_⟩
  · have hk7 : k < 7 := by
      have := (List.getElem?_eq_some_iff.mp hq).1
      simpa [classes] using this
    rw [cls_at hk7] at hq
    cases hq
    exact hD k hk7
  · match k, hq with
    | 0, hq => cases hq; exact ⟨fun n z => ⟨fun k h => (by cases h), kI, hkI, pI, hkI2⟩, hcI⟩
    | 1, hq => cases hq; exact ⟨fun n z => ⟨fun k h => (by cases h), kZ, hkZ, pZ, hkZ2⟩, hcZ⟩
    | 2, hq => cases hq; exact ⟨fun n z => ⟨fun k h => (by cases h), kS, hkS, pS, hkS2⟩, kS, pS, hkS, hkS2, hpS, hcS⟩
    | k + 3, hq => simp [mtys] at hq
  · have hm : i ∈ [0, 1, 2, 3, 4, 5] := by simp; omega
    exact vk_R.of (A := #[Value.ref b]) (hts _ (str_w i hm)) (hev i hi)
  · exact va_Zof (args := #[Value.ref b]) (hts _ ls_w.1) (htw _ wJ_iS) (va_eqt (hgs _ nv_cs)) hA
  · exact va_Zqof (args := #[Value.ref b]) (hts _ ls_w.2) (htw _ wJ_iPC) (hgs _ nv_sf) hA
/-- the law, as the abstract machine has it -/
def lawP (L : Nat) (xs : Nat → Int) : Prop := ∀ K, mClo m_W_law (mR3 10) (100, 5000) (L + 1, xs) (fun v _ => v = some (vi 1)) K → K 0 [(0, vs 0)] [] (([], []), fun _ _ => 0)
set_option maxHeartbeats 4000000 in
theorem start_of {p : Program} {e : Env} {s : State} {m : MethodId} {below : List Frame} {meth : Method} {c : Code} (l : Launch) {b L : Nat} {xs : Nat → Int32} (hL : L ≤ 320) (C0 : lw_At p s m meth c b L xs) (hlaw : lawP L (fun j => (xs j).toInt)) : W p l e room_1 s m #[Value.ref b] below meth c s.heap [] 0 0 (lw_Z below #[Value.ref b] s) (entryFrame m ([Value.ref b] : List Value).toArray 4) := by
  obtain ⟨G, hsz, hgb, hG⟩ := g_start C0
  obtain ⟨hx, hb, hr, hml, hown, hts, hX, hbl, hlocks, hgv⟩ := id C0
  have htw : ∀ w ∈ mWS, w.before #[Value.ref b] s = true := fun w hw => hts w (List.mem_filter.mp hw).1
  have exs : (fun j => Int32.ofInt ((xs j).toInt)) = xs := by funext j; exact Int32.ofInt_toInt _
  have X : mXf G l 8 4 (some .boolean) false code 10 0 0 (100, 5000) (L + 1, fun j => (xs j).toInt) p room_1 s m #[Value.ref b] meth c :=
    ⟨⟨hx, hb, hml, hown, htw⟩, hG, ⟨by omega, by omega⟩, fun q => (by cases q), ⟨by decide, by decide⟩, ⟨by decide, by decide⟩, Or.inr ⟨by show va_X (gB G) L (fun j => Int32.ofInt ((xs j).toInt)) s s.heap; rw [hgb, exs]; exact hX, by rw [hgb, hsz]; exact hbl, fun j => i_ti _, by show L + 1 ≤ 1000; omega⟩⟩
  have hclo : mClo m_W_law (mR3 10) (100, 5000) (L + 1, fun j => (xs j).toInt) (fun v _ => v = some (vi 1)) (mV G p l e room_1 s m #[Value.ref b] below meth c (lw_Z below #[Value.ref b] s) 4 0 0) := by
    intro i pc rows hi lv st hh hrun
    have hbk : bOK 8 code 4 (some .boolean) false 9 pc rows = true := law_ok (pc, rows) (List.mem_of_getElem? hi)
    refine mV_rows X (strMet_ok G l) (by decide) (fun y' as' h' r' hc hn => mMet_of (strMet_ok G l) 10 y' as' h' r' hc hn) ?_ ?_ ?_ rows pc lv st hh hbk hrun
    · intro pc lv v h2 hd hty hret
      intro h1 h2' h3 H locs ls hg1 hS hl
      have hv : v = 1 := Sum.inl.inj (Option.some.inj hret)
      subst hv
      refine va_forget (fun q hq => by have := hS.2.2 q hq; unfold gA at this; omega) ?_
      refine W.widen (k := 600000) (n := 7302250) (by have := h3.2.1; exact this) (by have := h3.2.2; exact this) ?_
      exact lw_ret hx hb hr hlocks hd
    · intro pc lv v h2 hd hty hret; cases hty
    · intro pc lv h2 hd hty hret; cases hty
  have hK := hlaw _ hclo
  have hl := lv_entry [Value.ref b] (n := 4) (Nat.le_of_ble_eq_true rfl)
  rw [lg_entry_eq]
  have eb : toV G (vs 0) = .ref b := by show Value.ref (gB G) = _; rw [hgb]
  have hl' : lv_has (lg_sl [Value.ref b] ++ List.replicate (4 - (lg_sl [Value.ref b]).length) Slot.unset).toArray 4 (tLV G [(0, vs 0)]) := by
    show lv_has _ 4 [(0, toV G (vs 0))]
    rw [eb]
    exact hl
  have hW := hK (fun q hq => by rw [List.mem_singleton.mp hq]; exact trivial) (fun _ q => absurd q List.not_mem_nil) ⟨⟨Nat.le_refl _, Nat.le_refl _⟩, Nat.zero_le _, Nat.zero_le _⟩ s.heap [] _ ⟨fun k q h => by simp [mW] at h, ⟨fun k t n h => by simp at h, fun q hq => absurd hq List.not_mem_nil, fun q hq => absurd hq List.not_mem_nil⟩, fun _ _ => inR_0⟩ va_S.rf hl'
  exact hW
end
section
/-! PURE PROOFS 1: helpers, Arrays.fill, the objects' beginnings -/
theorem mTag_i {sh : mSh} {k t n : Nat} {c : Nat → Prop} (h : sh.1[k]? = some (t, n)) (hc : c n) : mTag sh k t c := by
  unfold mTag
  rw [h]
  simp [hc]
theorem w32_s {z : Int} (h0 : -2147483648 ≤ z) (h1 : z < 2147483648) : w32 z = z := w32_id ⟨h0, h1⟩
def mfill (M : mMem) (k : Nat) (n v : Int) : mMem := fun k' i => if k' = k ∧ 0 ≤ i ∧ i < n then v else M k' i
theorem mfill_0 (M : mMem) (k : Nat) (v : Int) : mfill M k 0 v = M := by
  funext k' i
  unfold mfill
  rw [if_neg (by omega)]
theorem mfill_s (M : mMem) (k : Nat) {i : Int} (v : Int) (h : 0 ≤ i) : mupd (mfill M k i v) k i v = mfill M k (i + 1) v := by
  funext k' j
  unfold mupd mfill
  by_cases h1 : k' = k
  · by_cases h2 : j = i
    · rw [if_pos ⟨h1, h2⟩, if_pos ⟨h1, by omega, by omega⟩]
    · rw [if_neg (fun q => h2 q.2)]
      by_cases h3 : 0 ≤ j ∧ j < i
      · rw [if_pos ⟨h1, h3⟩, if_pos ⟨h1, by omega, by omega⟩]
      · rw [if_neg (fun q => h3 q.2), if_neg (fun q => h3 ⟨q.2.1, by omega⟩)]
  · rw [if_neg (fun q => h1 q.1), if_neg (fun q => h1 q.1), if_neg (fun q => h1 q.1)]
theorem R_fill (d : Nat) (sh : mSh) (M : mMem) (k n : Nat) (v : Int) (hk : sh.1[k]? = some (0, n)) (hn : n ≤ 1000) : mR3 (d + 1) 190 [vr k, vi v] (sh, M) (none, (sh, mfill M k n v)) := by
  refine ⟨⟨by decide, Nat.le_of_ble_eq_true rfl⟩, fun K hK => ?_⟩
  have hK : mClo m_A_fill (mR3 d) (sh.1.length, mtot sh.1) (0, fun _ => 0) (mret (none, (sh, mfill M k n v))) K := hK
  have loop : ∀ (j : Nat) (i : Int), 0 ≤ i → i + j = n → K 5 [(0, vr k), (1, vi v), (2, vi i), (3, vi (n : Int))] [] (sh, mfill M k i v) := by
    intro j
    induction j with
    | zero =>
      intro i h0 hi
      refine hK 1 5 b_A_fill_5 rfl _ _ _ (And.intro (fun _ => ?_) (fun q => absurd (show (n : Int) ≤ i by omega) q))
      refine hK 2 20 b_A_fill_20 rfl _ _ _ ?_
      exact And.intro rfl (by rw [show i = (n : Int) by omega])
    | succ j ih =>
      intro i h0 hi
      refine hK 1 5 b_A_fill_5 rfl _ _ _ (And.intro (fun q => absurd (show (n : Int) ≤ i from q) (by omega)) (fun _ => ?_))
      refine mTag_i hk (mIn_i h0 (by omega) ?_)
      have h1 := ih (i + 1) (by omega) (by omega)
      have e1 : w32 (i + 1) = i + 1 := w32_s (by omega) (by omega)
      rw [← mfill_s M k v h0, ← e1] at h1
      exact h1
  refine hK 0 0 b_A_fill_0 rfl _ _ _ ?_
  refine mTag_i hk ?_
  have h1 := loop n 0 (by omega) (by omega)
  rw [mfill_0] at h1
  exact h1
theorem mRef_i {sh : mSh} {k j t : Nat} {c : Nat → Prop} (h : sh.2.lookup (k, j) = some t) (hc : c t) : mRef sh k j c := by
  unfold mRef
  rw [h]
  exact hc
theorem mB_i {b : Bool} {p : Prop} (h : b = true) (hp : p) : mB b p := by
  rw [h]
  exact hp
def mclear (M : mMem) (k : Nat) : mMem := mupd (mupd (mfill (mupd (mupd (mfill (mfill (mfill M (k + 1) (36 : Nat) 0) (k + 6) (25 : Nat) 0) (k + 7) (25 : Nat) 0) (k + 6) 0 30) (k + 7) 0 30) (k + 2) (4 : Nat) 20) k (5 : Nat) 0) k (6 : Nat) 0
/-- a charter lies at k -/
def isCh (sh : mSh) (k : Nat) : Prop := sh.1[k]? = some (3, 11) ∧ (sh.2.lookup (k, 0) = some (k + 1) ∧ sh.1[k + 1]? = some (0, 36)) ∧ (sh.2.lookup (k, 1) = some (k + 2) ∧ sh.1[k + 2]? = some (0, 4)) ∧ (sh.2.lookup (k, 9) = some (k + 6) ∧ sh.1[k + 6]? = some (0, 25)) ∧ (sh.2.lookup (k, 10) = some (k + 7) ∧ sh.1[k + 7]? = some (0, 25))
theorem R_clear (d : Nat) (sh : mSh) (M : mMem) (k : Nat) (hc : isCh sh k) : mR3 (d + 2) 1 [vr k] (sh, M) (none, (sh, mclear M k)) := by
  obtain ⟨h0, ⟨r1, h1⟩, ⟨r2, h2⟩, ⟨r6, h6⟩, r7, h7⟩ := hc
  refine ⟨⟨by decide, Nat.le_of_ble_eq_true rfl⟩, fun K hK => ?_⟩
  have hK : mClo m_C_clear (mR3 (d + 1)) (sh.1.length, mtot sh.1) (0, fun _ => 0) (mret (none, (sh, mclear M k))) K := hK
  refine hK 0 0 b_C_clear_0 rfl _ _ _ ?_
  refine mTag_i h0 (mRef_i r1 (mB_i rfl (Exists.intro _ (And.intro (R_fill d sh _ (k + 1) 36 0 h1 (by decide)) ?_))))
  refine mTag_i h0 (mRef_i r6 (mB_i rfl (Exists.intro _ (And.intro (R_fill d sh _ (k + 6) 25 0 h6 (by decide)) ?_))))
  refine mTag_i h0 (mRef_i r7 (mB_i rfl (Exists.intro _ (And.intro (R_fill d sh _ (k + 7) 25 0 h7 (by decide)) ?_))))
  refine mTag_i h0 (mRef_i r6 (mTag_i h6 (mIn_i (by decide) (by decide) ?_)))
  refine mTag_i h0 (mRef_i r7 (mTag_i h7 (mIn_i (by decide) (by decide) ?_)))
  refine mTag_i h0 (mRef_i r2 (mB_i rfl (Exists.intro _ (And.intro (R_fill d sh _ (k + 2) 4 20 h2 (by decide)) ?_))))
  refine mTag_i h0 (mTag_i h0 ?_)
  exact And.intro rfl rfl
/-- the shape when n cells and r references stand -/
def shA (n r : Nat) : mSh := (S0.1.take n, S0.2.drop (S0.2.length - r))
end
section
/-! PURE PROOFS 2: the constructors, at the shapes in which they run -/
def mCin (M : mMem) (k : Nat) : mMem := mclear (mzero (mzero (mzero (mzero (mzero (mzero (mzero M (k + 1)) (k + 2)) (k + 3)) (k + 4)) (k + 5)) (k + 6)) (k + 7)) k
set_option maxRecDepth 100000 in
theorem R_C_init_1 (d : Nat) (M : mMem) : mR3 (d + 3) 0 [vr 1] (shA 2 0, M) (none, (shA 9 7, mCin M 1)) := by
  refine ⟨⟨by decide, Nat.le_of_ble_eq_true rfl⟩, fun K hK => ?_⟩
  have hK : mClo m_C_init (mR3 (d + 2)) ((shA 9 7).1.length, mtot (shA 9 7).1) (0, fun _ => 0) (mret (none, (shA 9 7, mCin M 1))) K := hK
  refine hK 0 0 b_C_init_0 rfl _ _ _ ?_
  refine And.intro ⟨by decide, by decide, Nat.le_of_ble_eq_true rfl, Nat.le_of_ble_eq_true rfl⟩ ?_
  refine And.intro ⟨by decide, by decide, Nat.le_of_ble_eq_true rfl, Nat.le_of_ble_eq_true rfl⟩ ?_
  refine And.intro ⟨by decide, by decide, Nat.le_of_ble_eq_true rfl, Nat.le_of_ble_eq_true rfl⟩ ?_
  refine And.intro ⟨by decide, by decide, Nat.le_of_ble_eq_true rfl, Nat.le_of_ble_eq_true rfl⟩ ?_
  refine And.intro ⟨by decide, by decide, Nat.le_of_ble_eq_true rfl, Nat.le_of_ble_eq_true rfl⟩ ?_
  refine And.intro ⟨by decide, by decide, Nat.le_of_ble_eq_true rfl, Nat.le_of_ble_eq_true rfl⟩ ?_
  refine And.intro ⟨by decide, by decide, Nat.le_of_ble_eq_true rfl, Nat.le_of_ble_eq_true rfl⟩ ?_
  refine Exists.intro _ (And.intro (R_clear d (shA 9 7) _ 1 (by unfold isCh; decide +kernel)) ?_)
  exact And.intro rfl rfl
set_option maxRecDepth 100000 in
theorem R_C_init_9 (d : Nat) (M : mMem) : mR3 (d + 3) 0 [vr 9] (shA 10 8, M) (none, (shA 17 15, mCin M 9)) := by
  refine ⟨⟨by decide, Nat.le_of_ble_eq_true rfl⟩, fun K hK => ?_⟩
  have hK : mClo m_C_init (mR3 (d + 2)) ((shA 17 15).1.length, mtot (shA 17 15).1) (0, fun _ => 0) (mret (none, (shA 17 15, mCin M 9))) K := hK
  refine hK 0 0 b_C_init_0 rfl _ _ _ ?_
  refine And.intro ⟨by decide, by decide, Nat.le_of_ble_eq_true rfl, Nat.le_of_ble_eq_true rfl⟩ ?_
  refine And.intro ⟨by decide, by decide, Nat.le_of_ble_eq_true rfl, Nat.le_of_ble_eq_true rfl⟩ ?_
  refine And.intro ⟨by decide, by decide, Nat.le_of_ble_eq_true rfl, Nat.le_of_ble_eq_true rfl⟩ ?_
  refine And.intro ⟨by decide, by decide, Nat.le_of_ble_eq_true rfl, Nat.le_of_ble_eq_true rfl⟩ ?_
  refine And.intro ⟨by decide, by decide, Nat.le_of_ble_eq_true rfl, Nat.le_of_ble_eq_true rfl⟩ ?_
  refine And.intro ⟨by decide, by decide, Nat.le_of_ble_eq_true rfl, Nat.le_of_ble_eq_true rfl⟩ ?_
  refine And.intro ⟨by decide, by decide, Nat.le_of_ble_eq_true rfl, Nat.le_of_ble_eq_true rfl⟩ ?_
  refine Exists.intro _ (And.intro (R_clear d (shA 17 15) _ 9 (by unfold isCh; decide +kernel)) ?_)
  exact And.intro rfl rfl
set_option maxRecDepth 100000 in
theorem R_C_init_18 (d : Nat) (M : mMem) : mR3 (d + 3) 0 [vr 18] (shA 19 16, M) (none, (shA 26 23, mCin M 18)) := by
  refine ⟨⟨by decide, Nat.le_of_ble_eq_true rfl⟩, fun K hK => ?_⟩
  have hK : mClo m_C_init (mR3 (d + 2)) ((shA 26 23).1.length, mtot (shA 26 23).1) (0, fun _ => 0) (mret (none, (shA 26 23, mCin M 18))) K := hK
  refine hK 0 0 b_C_init_0 rfl _ _ _ ?_
  refine And.intro ⟨by decide, by decide, Nat.le_of_ble_eq_true rfl, Nat.le_of_ble_eq_true rfl⟩ ?_
  refine And.intro ⟨by decide, by decide, Nat.le_of_ble_eq_true rfl, Nat.le_of_ble_eq_true rfl⟩ ?_
  refine And.intro ⟨by decide, by decide, Nat.le_of_ble_eq_true rfl, Nat.le_of_ble_eq_true rfl⟩ ?_
  refine And.intro ⟨by decide, by decide, Nat.le_of_ble_eq_true rfl, Nat.le_of_ble_eq_true rfl⟩ ?_
  refine And.intro ⟨by decide, by decide, Nat.le_of_ble_eq_true rfl, Nat.le_of_ble_eq_true rfl⟩ ?_
  refine And.intro ⟨by decide, by decide, Nat.le_of_ble_eq_true rfl, Nat.le_of_ble_eq_true rfl⟩ ?_
  refine And.intro ⟨by decide, by decide, Nat.le_of_ble_eq_true rfl, Nat.le_of_ble_eq_true rfl⟩ ?_
  refine Exists.intro _ (And.intro (R_clear d (shA 26 23) _ 18 (by unfold isCh; decide +kernel)) ?_)
  exact And.intro rfl rfl
set_option maxRecDepth 100000 in
theorem R_C_init_27 (d : Nat) (M : mMem) : mR3 (d + 3) 0 [vr 27] (shA 28 25, M) (none, (shA 35 32, mCin M 27)) := by
  refine ⟨⟨by decide, Nat.le_of_ble_eq_true rfl⟩, fun K hK => ?_⟩
  have hK : mClo m_C_init (mR3 (d + 2)) ((shA 35 32).1.length, mtot (shA 35 32).1) (0, fun _ => 0) (mret (none, (shA 35 32, mCin M 27))) K := hK
  refine hK 0 0 b_C_init_0 rfl _ _ _ ?_
  refine And.intro ⟨by decide, by decide, Nat.le_of_ble_eq_true rfl, Nat.le_of_ble_eq_true rfl⟩ ?_
  refine And.intro ⟨by decide, by decide, Nat.le_of_ble_eq_true rfl, Nat.le_of_ble_eq_true rfl⟩ ?_
  refine And.intro ⟨by decide, by decide, Nat.le_of_ble_eq_true rfl, Nat.le_of_ble_eq_true rfl⟩ ?_
  refine And.intro ⟨by decide, by decide, Nat.le_of_ble_eq_true rfl, Nat.le_of_ble_eq_true rfl⟩ ?_
  refine And.intro ⟨by decide, by decide, Nat.le_of_ble_eq_true rfl, Nat.le_of_ble_eq_true rfl⟩ ?_
  refine And.intro ⟨by decide, by decide, Nat.le_of_ble_eq_true rfl, Nat.le_of_ble_eq_true rfl⟩ ?_
  refine And.intro ⟨by decide, by decide, Nat.le_of_ble_eq_true rfl, Nat.le_of_ble_eq_true rfl⟩ ?_
  refine Exists.intro _ (And.intro (R_clear d (shA 35 32) _ 27 (by unfold isCh; decide +kernel)) ?_)
  exact And.intro rfl rfl
set_option maxRecDepth 100000 in
theorem R_I_init_17 (d : Nat) (M : mMem) : mR3 (d + 4) 24 [vr 17] (shA 18 16, M) (none, (shA 26 24, mCin (mzero M 18) 18)) := by
  refine ⟨⟨by decide, Nat.le_of_ble_eq_true rfl⟩, fun K hK => ?_⟩
  have hK : mClo m_I_init (mR3 (d + 3)) ((shA 26 24).1.length, mtot (shA 26 24).1) (0, fun _ => 0) (mret (none, (shA 26 24, mCin (mzero M 18) 18))) K := hK
  refine hK 0 0 b_I_init_0 rfl _ _ _ ?_
  refine And.intro ⟨Nat.le_of_ble_eq_true rfl, Nat.le_of_ble_eq_true rfl⟩ ?_
  refine Exists.intro (shA 26 23, _) (And.intro (R_C_init_18 d _) (And.intro ⟨Nat.le_of_ble_eq_true rfl, Nat.le_of_ble_eq_true rfl, Nat.le_of_ble_eq_true rfl, Nat.le_of_ble_eq_true rfl⟩ ?_))
  exact And.intro rfl rfl
set_option maxRecDepth 100000 in
theorem R_I_init_26 (d : Nat) (M : mMem) : mR3 (d + 4) 24 [vr 26] (shA 27 25, M) (none, (shA 35 33, mCin (mzero M 27) 27)) := by
  refine ⟨⟨by decide, Nat.le_of_ble_eq_true rfl⟩, fun K hK => ?_⟩
  have hK : mClo m_I_init (mR3 (d + 3)) ((shA 35 33).1.length, mtot (shA 35 33).1) (0, fun _ => 0) (mret (none, (shA 35 33, mCin (mzero M 27) 27))) K := hK
  refine hK 0 0 b_I_init_0 rfl _ _ _ ?_
  refine And.intro ⟨Nat.le_of_ble_eq_true rfl, Nat.le_of_ble_eq_true rfl⟩ ?_
  refine Exists.intro (shA 35 32, _) (And.intro (R_C_init_27 d _) (And.intro ⟨Nat.le_of_ble_eq_true rfl, Nat.le_of_ble_eq_true rfl, Nat.le_of_ble_eq_true rfl, Nat.le_of_ble_eq_true rfl⟩ ?_))
  exact And.intro rfl rfl
set_option maxRecDepth 100000 in
theorem R_T_init_35 (d : Nat) (M : mMem) : mR3 (d + 1) 30 [vr 35] (shA 36 34, M) (none, (shA 37 35, mzero M 36)) := by
  refine ⟨⟨by decide, Nat.le_of_ble_eq_true rfl⟩, fun K hK => ?_⟩
  have hK : mClo m_T_init (mR3 (d + 0)) ((shA 37 35).1.length, mtot (shA 37 35).1) (0, fun _ => 0) (mret (none, (shA 37 35, mzero M 36))) K := hK
  refine hK 0 0 b_T_init_0 rfl _ _ _ ?_
  refine And.intro ⟨by decide, by decide, Nat.le_of_ble_eq_true rfl, Nat.le_of_ble_eq_true rfl⟩ ?_
  exact And.intro rfl rfl
set_option maxRecDepth 100000 in
theorem R_O_init_37 (d : Nat) (M : mMem) : mR3 (d + 1) 20 [vr 37] (shA 38 36, M) (none, (shA 38 36, M)) := by
  refine ⟨⟨by decide, Nat.le_of_ble_eq_true rfl⟩, fun K hK => ?_⟩
  have hK : mClo m_O_init (mR3 (d + 0)) ((shA 38 36).1.length, mtot (shA 38 36).1) (0, fun _ => 0) (mret (none, (shA 38 36, M))) K := hK
  refine hK 0 0 b_O_init_0 rfl _ _ _ ?_
  exact And.intro rfl rfl
set_option maxRecDepth 100000 in
theorem R_S_init_45 (d : Nat) (M : mMem) : mR3 (d + 1) 25 [vr 45] (shA 46 44, M) (none, (shA 47 45, mupd (mzero M 46) 45 (2 : Nat) (-1))) := by
  refine ⟨⟨by decide, Nat.le_of_ble_eq_true rfl⟩, fun K hK => ?_⟩
  have hK : mClo m_S_init (mR3 (d + 0)) ((shA 47 45).1.length, mtot (shA 47 45).1) (0, fun _ => 0) (mret (none, (shA 47 45, mupd (mzero M 46) 45 (2 : Nat) (-1)))) K := hK
  refine hK 0 0 b_S_init_0 rfl _ _ _ ?_
  refine And.intro ⟨by decide, by decide, Nat.le_of_ble_eq_true rfl, Nat.le_of_ble_eq_true rfl⟩ ?_
  exact And.intro rfl rfl
set_option maxRecDepth 100000 in
theorem R_S_init_47 (d : Nat) (M : mMem) : mR3 (d + 1) 25 [vr 47] (shA 48 46, M) (none, (shA 49 47, mupd (mzero M 48) 47 (2 : Nat) (-1))) := by
  refine ⟨⟨by decide, Nat.le_of_ble_eq_true rfl⟩, fun K hK => ?_⟩
  have hK : mClo m_S_init (mR3 (d + 0)) ((shA 49 47).1.length, mtot (shA 49 47).1) (0, fun _ => 0) (mret (none, (shA 49 47, mupd (mzero M 48) 47 (2 : Nat) (-1)))) K := hK
  refine hK 0 0 b_S_init_0 rfl _ _ _ ?_
  refine And.intro ⟨by decide, by decide, Nat.le_of_ble_eq_true rfl, Nat.le_of_ble_eq_true rfl⟩ ?_
  exact And.intro rfl rfl
set_option maxRecDepth 100000 in
theorem R_S_init_49 (d : Nat) (M : mMem) : mR3 (d + 1) 25 [vr 49] (shA 50 48, M) (none, (shA 51 49, mupd (mzero M 50) 49 (2 : Nat) (-1))) := by
  refine ⟨⟨by decide, Nat.le_of_ble_eq_true rfl⟩, fun K hK => ?_⟩
  have hK : mClo m_S_init (mR3 (d + 0)) ((shA 51 49).1.length, mtot (shA 51 49).1) (0, fun _ => 0) (mret (none, (shA 51 49, mupd (mzero M 50) 49 (2 : Nat) (-1)))) K := hK
  refine hK 0 0 b_S_init_0 rfl _ _ _ ?_
  refine And.intro ⟨by decide, by decide, Nat.le_of_ble_eq_true rfl, Nat.le_of_ble_eq_true rfl⟩ ?_
  exact And.intro rfl rfl
set_option maxRecDepth 100000 in
theorem R_S_init_51 (d : Nat) (M : mMem) : mR3 (d + 1) 25 [vr 51] (shA 52 50, M) (none, (shA 53 51, mupd (mzero M 52) 51 (2 : Nat) (-1))) := by
  refine ⟨⟨by decide, Nat.le_of_ble_eq_true rfl⟩, fun K hK => ?_⟩
  have hK : mClo m_S_init (mR3 (d + 0)) ((shA 53 51).1.length, mtot (shA 53 51).1) (0, fun _ => 0) (mret (none, (shA 53 51, mupd (mzero M 52) 51 (2 : Nat) (-1)))) K := hK
  refine hK 0 0 b_S_init_0 rfl _ _ _ ?_
  refine And.intro ⟨by decide, by decide, Nat.le_of_ble_eq_true rfl, Nat.le_of_ble_eq_true rfl⟩ ?_
  exact And.intro rfl rfl
end
