/-! SOUNDNESS 9: methods -/
def mxl : List Nat := [1, 1, 2, 3, 6, 3, 3, 2, 2, 6, 4, 4, 4, 3, 3, 4, 2, 1, 4, 6, 1, 2, 3, 2, 1, 1, 3, 3, 4, 3, 1, 4, 2, 1, 1, 1, 2, 3, 4, 4, 3, 6, 3, 1, 2, 2, 3, 2, 1, 2, 3, 2, 3, 3, 5, 4, 4, 3, 5, 5, 5, 5, 4, 2, 3, 4, 5, 5, 4, 3, 3, 8, 7, 3, 3, 4, 7, 6, 4, 6, 4, 3, 4, 6, 10, 1, 2, 2, 1, 1, 1, 1, 2, 2, 2, 2, 3, 2, 3, 6, 6, 1, 6, 5, 2, 3, 6, 8, 11, 2, 1, 3, 5, 4, 1, 6, 2, 3, 2, 2, 4, 2, 5, 3, 3, 2, 3, 1, 2, 2, 1, 6, 6, 9, 4, 4, 4, 4, 3, 2, 3, 3, 6, 5, 3, 5, 2, 6, 5, 4, 4, 3, 3, 3, 4, 4, 2, 3, 3, 6, 4, 9, 4, 8, 6, 5, 4, 11, 3, 14, 4, 3, 3, 3, 2, 1, 4, 3, 5, 6, 5, 6, 9, 3, 2, 5, 4, 9, 1, 4, 4]
/-- method y, with a depth of d calls, comes to its end with r -/
def mR3 : Nat → Nat → List mVal → mHp → Option mVal × mHp → Prop
  | 0, _, _, _, _ => False
  | d + 1, y, as, h, r => (y < 191 ∧ (as.map mcat).sum ≤ mxl.getD y 0) ∧ ∀ K, mClo (mP y) (mR3 d) (r.2.1.1.length, mtot r.2.1.1) (0, fun _ => 0) (mret r) K → K 0 (margs 0 as) [] h
def mAll (y : Nat) : Bool := (mP y).1.all (fun q => bOKf (mOw y) (mCo y) (pkA (mCo y)) (mCo y).size (mMx y) (mRt y) (mInitL.contains y) (nNeed y) q.1 q.2) && mMx y == mxl.getD y 0
set_option maxRecDepth 100000 in
theorem mAll_0 : (List.range' 0 24).all mAll = true := by decide +kernel
set_option maxRecDepth 100000 in
theorem mAll_1 : (List.range' 24 24).all mAll = true := by decide +kernel
set_option maxRecDepth 100000 in
theorem mAll_2 : (List.range' 48 24).all mAll = true := by decide +kernel
set_option maxRecDepth 100000 in
theorem mAll_3 : (List.range' 72 24).all mAll = true := by decide +kernel
set_option maxRecDepth 100000 in
theorem mAll_4 : (List.range' 96 24).all mAll = true := by decide +kernel
set_option maxRecDepth 100000 in
theorem mAll_5 : (List.range' 120 24).all mAll = true := by decide +kernel
set_option maxRecDepth 100000 in
theorem mAll_6 : (List.range' 144 24).all mAll = true := by decide +kernel
set_option maxRecDepth 100000 in
theorem mAll_7 : (List.range' 168 23).all mAll = true := by decide +kernel
theorem mAll_of {y : Nat} (hy : y < 191) : mAll y = true := by
  have key : ∀ a b : Nat, (List.range' a b).all mAll = true → a ≤ y → y < a + b → mAll y = true := fun a b q h1 h2 => List.all_eq_true.mp q y (List.mem_range'_1.mpr ⟨h1, h2⟩)
  rcases Nat.lt_or_ge y 24 with q | q
  · exact key 0 24 mAll_0 (by omega) (by omega)
  rcases Nat.lt_or_ge y 48 with q | q
  · exact key 24 24 mAll_1 (by omega) (by omega)
  rcases Nat.lt_or_ge y 72 with q | q
  · exact key 48 24 mAll_2 (by omega) (by omega)
  rcases Nat.lt_or_ge y 96 with q | q
  · exact key 72 24 mAll_3 (by omega) (by omega)
  rcases Nat.lt_or_ge y 120 with q | q
  · exact key 96 24 mAll_4 (by omega) (by omega)
  rcases Nat.lt_or_ge y 144 with q | q
  · exact key 120 24 mAll_5 (by omega) (by omega)
  rcases Nat.lt_or_ge y 168 with q | q
  · exact key 144 24 mAll_6 (by omega) (by omega)
  exact key 168 23 mAll_7 (by omega) (by omega)
theorem margs_t (G : mG) : ∀ (as : List mVal) (i : Nat), lv_args i (as.map (toV G)) = tLV G (margs i as)
  | [], _ => rfl
  | v :: as, i => by
    show (i, toV G v) :: lv_args (if (toV G v).category = 2 then i + 2 else i + 1) (as.map (toV G)) = (i, toV G v) :: tLV G (margs (i + mcat v) as)
    have e : (if (toV G v).category = 2 then i + 2 else i + 1) = i + mcat v := by
      rw [toV_cat]
      rcases v with z | z | k | q <;> rfl
    rw [e, margs_t G as]
theorem margs_ok : ∀ (as : List mVal) (i : Nat), (∀ v ∈ as, okV v) → ∀ q ∈ margs i as, okV q.2
  | [], _, _, _, hq => absurd hq List.not_mem_nil
  | v :: as, i, h, q, hq => by
    rcases List.mem_cons.mp hq with rfl | hq
    · exact h v List.mem_cons_self
    · exact margs_ok as _ (fun w hw => h w (List.mem_cons_of_mem _ hw)) q hq
theorem sl_len (G : mG) : ∀ as : List mVal, (lg_sl (as.map (toV G))).length = (as.map mcat).sum
  | [] => rfl
  | v :: as => by
    have ih := sl_len G as
    unfold lg_sl at ih ⊢
    rw [List.map_cons, List.flatMap_cons, List.length_append, ih, List.map_cons, List.sum_cons, toV_cat]
    congr 1
    rcases v with z | z | k | q <;> rfl
/-- a method's contract over the machine, out of the abstract run -/
theorem mMet_of {G : mG} {l : Launch} (hstr : strMet G l) : ∀ (d y : Nat) (as : List mVal) (h : mHp) (r : Option mVal × mHp), mR3 d y as h r → nNeed y ≤ d → mMet G l d y as h r := by
  intro d
  induction d with
  | zero => intro y as h r hr; exact hr.elim
  | succ d ih =>
    intro y as h r hr hnd mc ms hmc hms hok
    obtain ⟨⟨hy, hsum⟩, hr⟩ := hr
    have hall := mAll_of hy
    unfold mAll at hall
    rw [Bool.and_eq_true] at hall
    have hmx : mMx y = mxl.getD y 0 := eq_of_beq hall.2
    refine Met.ofW (cc := mCo y) (maxL := mMx y) (ret := mRt y) (y_cls hy).1 rfl ?_
    intro p e s m args below meth c s₁ B hml hv
    obtain ⟨rfl, hG, hg, hz1, hz2⟩ := hv
    have hx := B.exec
    have hb := B.bytes
    have hrt := B.returns
    have hlocks := B.notSynchronized
    have hts0 := atoms_spec (ws := mws y) B.pre
    have hts : ∀ w ∈ mWS, w.before ((as.map (toV G)).toArray) s = true := fun w hw => hts0 w (List.mem_cons_of_mem _ hw)
    have hown : s.vm.findClass (nR (mOw y)) = some m.cls := findClass_of_methodNamed B.named
    have hini : mInitL.contains y = true → meth.name = "<init>" := fun q => (name_of_methodNamed B.named B.method).1.trans (mInit_w y (List.elem_iff.mp q))
    have X : mXf G l (mOw y) (mMx y) (mRt y) (mInitL.contains y) (mCo y) d h.1.1.length (mtot h.1.1) (r.2.1.1.length, mtot r.2.1.1) (0, fun _ => 0) p (headSpec (mws y) (mroom (d + 1) mc ms)).room s m ((as.map (toV G)).toArray) meth c :=
      ⟨⟨hx, hb, hml, hown, hts⟩, hG, ⟨hz1, hz2⟩, hini, ⟨Nat.le_refl _, by show 33 * d + 33 ≤ 33 * (d + 1); omega⟩, ⟨by show r.2.1.1.length ≤ h.1.1.length + mc; omega, by show mtot r.2.1.1 ≤ mtot h.1.1 + ms; omega⟩, Or.inl rfl⟩
    have hend : ∀ (H : Heap) (locs : List Loc), gOK G r.2 H → va_S (gA G) s.heap H locs → (∀ v ∈ r.1.toList, okV v) → ∀ t : State, t.heap = H → s.WarmedH t.vm → mPost G r ((as.map (toV G)).toArray) s (.returned (r.1.map (toV G))) t := fun H locs hg1 hS hok1 t ht _ => ⟨⟨rfl, hok1, by rw [ht]; exact hg1⟩, hS.F ht⟩
    have hclo : mClo (mP y) (mR3 d) (r.2.1.1.length, mtot r.2.1.1) (0, fun _ => 0) (mret r) (mV G p l e (headSpec (mws y) (mroom (d + 1) mc ms)).room s m ((as.map (toV G)).toArray) below meth c (MQ below (mPost G r) ((as.map (toV G)).toArray) s mc ms (gA G)) (mMx y) h.1.1.length (mtot h.1.1)) := by
      intro i pc rows hi lv st hh hrun
      have hbk : bOK (mOw y) (mCo y) (mMx y) (mRt y) (mInitL.contains y) (nNeed y) pc rows = true := bOKf_ok (List.all_eq_true.mp hall.1 (pc, rows) (List.mem_of_getElem? hi))
      refine mV_rows X hstr hnd (fun y' as' h' r' hc hn => ih y' as' h' r' hc hn) ?_ ?_ ?_ rows pc lv st hh hbk hrun
      · intro pc lv v h2 hd hty hret
        obtain ⟨e1, e2⟩ := hret
        intro h1 h2' h3 H locs ls hg1 hS hl
        have hv : inR v := (okt h2').1
        have hok1 : ∀ w ∈ r.1.toList, okV w := by rw [← e1]; exact okc hv (fun _ q => absurd q List.not_mem_nil)
        subst e2
        have ec : r.2.1.1.length - h.1.1.length = mc := by omega
        have es : mtot r.2.1.1 - mtot h.1.1 = ms := by omega
        have hpost := hend H locs hg1 hS hok1
        rw [← e1] at hpost
        rw [ec, es]
        rcases hty with ht | ⟨ht, hv01⟩
        · exact W.iret hx hb (by rw [hrt, ht]) hpost hS.2.2 hd
        · exact W.zret (ty := .boolean) hx hb (by rw [hrt, ht]) (by rcases hv01 with rfl | rfl <;> decide) hpost hS.2.2 hd
      · intro pc lv v h2 hd hty hret
        obtain ⟨e1, e2⟩ := hret
        intro h1 h2' h3 H locs ls hg1 hS hl
        have hv : inL v := (okt h2').1
        have hok1 : ∀ w ∈ r.1.toList, okV w := by rw [← e1]; exact okc hv (fun _ q => absurd q List.not_mem_nil)
        subst e2
        have ec : r.2.1.1.length - h.1.1.length = mc := by omega
        have es : mtot r.2.1.1 - mtot h.1.1 = ms := by omega
        have hpost := hend H locs hg1 hS hok1
        rw [← e1] at hpost
        rw [ec, es]
        exact W.lret hx hb (by rw [hrt, hty]) hpost hS.2.2 hd
      · intro pc lv h2 hd hty hret
        obtain ⟨e1, e2⟩ := hret
        intro h1 h2' h3 H locs ls hg1 hS hl
        have hok1 : ∀ w ∈ r.1.toList, okV w := by rw [← e1]; exact fun _ q => absurd q List.not_mem_nil
        subst e2
        have ec : r.2.1.1.length - h.1.1.length = mc := by omega
        have es : mtot r.2.1.1 - mtot h.1.1 = ms := by omega
        have hpost := hend H locs hg1 hS hok1
        rw [← e1] at hpost
        rw [ec, es]
        exact W.vret hx hb (by rw [hrt, hty]) hpost hS.2.2 hd
    have hK := hr _ hclo
    have hlen : (lg_sl (as.map (toV G))).length ≤ mMx y := by rw [sl_len, hmx]; exact hsum
    have hl := lv_entry (as.map (toV G)) hlen
    rw [margs_t] at hl
    rw [lg_entry_eq]
    have hW := hK (margs_ok as 0 hok) (fun _ q => absurd q List.not_mem_nil) ⟨⟨Nat.le_refl _, Nat.le_refl _⟩, by show _ ≤ _ + mc; omega, by show _ ≤ _ + ms; omega⟩ s.heap [] _ hg va_S.rf hl
    rw [Nat.sub_self, Nat.sub_self] at hW
    exact hW
