section
/-! SOUNDNESS 1: the world of an abstract heap -/
abbrev mG : Type := Nat × Nat × (Nat → Nat) × va_G × ClassId × ClassId × ClassId
abbrev gSz (G : mG) : Nat := G.1
abbrev gB (G : mG) : Nat := G.2.1
abbrev gK (G : mG) : Nat → Nat := G.2.2.1
abbrev gD (G : mG) : va_G := G.2.2.2.1
abbrev gI (G : mG) : ClassId := G.2.2.2.2.1
abbrev gZ (G : mG) : ClassId := G.2.2.2.2.2.1
abbrev gS (G : mG) : ClassId := G.2.2.2.2.2.2
def gA (G : mG) : Nat → Prop := fun q => gSz G ≤ q
def mtys (G : mG) : List (ClassId × FieldType) := [(gI G, .int), (gZ G, .boolean), (gS G, .object (nR 3))]
def toV (G : mG) (v : mVal) : Value := match v with
  | .inl z => .int (Int32.ofInt z)
  | .inr (.inl z) => .long (Int64.ofInt z)
  | .inr (.inr (.inl k)) => .ref (gSz G + k)
  | .inr (.inr (.inr 0)) => .ref (gB G)
  | .inr (.inr (.inr (i + 1))) => .ref (gK G i)
def okV (v : mVal) : Prop := match v with
  | .inl z => inR z
  | .inr (.inl z) => inL z
  | .inr (.inr (.inl _)) => True
  | .inr (.inr (.inr 0)) => True
  | .inr (.inr (.inr (i + 1))) => i < 6
theorem toV_cat (G : mG) (v : mVal) : (toV G v).category = mcat v := by
  rcases v with z | z | k | i
  · rfl
  · rfl
  · rfl
  · cases i <;> rfl
def fvalF (G : mG) (m : Int → Int) (rf : Nat → Option Nat) (t j : Nat) : Value := bif nRf t j then va_rf ((rf j).map (gSz G + ·)) else .int (Int32.ofInt (m (j : Nat)))
def wentF (G : mG) (m : Int → Int) (rf : Nat → Option Nat) (q : Nat × Nat) : va_E := match q.1 with
  | 0 => .inl (gI G, q.2, .inl fun i => Int32.ofInt (m (i : Nat)))
  | 1 => .inl (gZ G, q.2, .inl fun i => Int32.ofInt (m (i : Nat)))
  | 2 => .inl (gS G, q.2, .inr (.inr (.inr (.inr fun i => (rf i).map (gSz G + ·)))))
  | t + 3 => .inr (t, (List.range q.2).map (fvalF G m rf t))
def mrf (h : mHp) (k : Nat) : Nat → Option Nat := fun j => h.1.2.lookup (k, j)
def mW (G : mG) (h : mHp) : va_W := h.1.1.mapIdx fun k q => (gSz G + k, wentF G (h.2 k) (mrf h k) q)
theorem mW_at {G : mG} {h : mHp} {k : Nat} {q : Nat × Nat} (hk : h.1.1[k]? = some q) : (mW G h)[k]? = some (gSz G + k, wentF G (h.2 k) (mrf h k) q) := by
  simp [mW, List.getElem?_mapIdx, hk]
theorem mW_key {G : mG} {h : mHp} {k : Nat} {q : Nat × va_E} (hk : (mW G h)[k]? = some q) : q.1 = gSz G + k ∧ k < h.1.1.length := by
  simp only [mW, List.getElem?_mapIdx] at hk
  cases hq : h.1.1[k]? with
  | none => rw [hq] at hk; cases hk
  | some x =>
    rw [hq] at hk
    cases hk
    exact ⟨rfl, (List.getElem?_eq_some_iff.mp hq).1⟩
theorem mW_D (G : mG) (h : mHp) : va_D (gA G) (mW G h) := by
  refine ⟨fun i j p q hi hj e => ?_, fun k q hk => ?_⟩
  · have h1 := (mW_key hi).1
    have h2 := (mW_key hj).1
    omega
  · have h1 := (mW_key hk).1
    show gSz G ≤ q.1
    omega
theorem mW_set {G : mG} {h h' : mHp} {k : Nat} {q : Nat × Nat} (hk : h.1.1[k]? = some q) (hl : h'.1.1 = h.1.1) (ho : ∀ j : Nat, j ≠ k → h'.2 j = h.2 j ∧ mrf h' j = mrf h j) : mW G h' = (mW G h).set k (gSz G + k, wentF G (h'.2 k) (mrf h' k) q) := by
  have hlen : k < (mW G h).length := by
    have := (List.getElem?_eq_some_iff.mp hk).1
    simpa [mW] using this
  refine List.ext_getElem? fun j => ?_
  by_cases hj : j = k
  · subst hj
    rw [List.getElem?_set_self hlen, mW_at (by rw [hl]; exact hk)]
  · rw [List.getElem?_set_ne (Ne.symm hj)]
    simp only [mW, List.getElem?_mapIdx, hl, (ho j hj).1, (ho j hj).2]
theorem mrf_m (h : mHp) (m : mMem) (k : Nat) : mrf (h.1, m) k = mrf h k := rfl
theorem arr_upd (m : Int → Int) {i v : Int} (hi : inR i) (h0 : 0 ≤ i) : (fun j : Nat => Int32.ofInt ((fun x : Int => if x = i then v else m x) (j : Nat))) = upd (fun j : Nat => Int32.ofInt (m (j : Nat))) (Int32.ofInt i).toNatClampNeg (Int32.ofInt v) := by
  funext j
  rw [i_clamp hi]
  unfold upd
  by_cases hj : j = i.toNat
  · have : (j : Int) = i := by omega
    rw [if_pos hj]
    show Int32.ofInt (if (j : Int) = i then v else m j) = _
    rw [if_pos this]
  · have : (j : Int) ≠ i := by omega
    rw [if_neg hj]
    show Int32.ofInt (if (j : Int) = i then v else m j) = _
    rw [if_neg this]
theorem mupd_k (m : mMem) (k : Nat) (i v : Int) : mupd m k i v k = fun x => if x = i then v else m k x := by
  funext x; simp [mupd]
theorem mupd_o (m : mMem) {k j : Nat} (i v : Int) (hj : j ≠ k) : mupd m k i v j = m j := by
  funext x; simp [mupd, hj]
theorem mupd_in {m : mMem} {k : Nat} {i v : Int} (hm : ∀ k i, inR (m k i)) (hv : inR v) : ∀ k' i', inR (mupd m k i v k' i') := by
  intro k' i'
  unfold mupd
  split
  · exact hv
  · exact hm _ _
theorem obj_upd {G : mG} {m : Int → Int} {rf : Nat → Option Nat} {t n b : Nat} {v : Int} (hr : nRf t b = false) : (List.range n).map (fvalF G (fun x => if x = (b : Nat) then v else m x) rf t) = ((List.range n).map (fvalF G m rf t)).set b (.int (Int32.ofInt v)) := by
  refine List.ext_getElem? fun j => ?_
  by_cases hj : j < n
  · by_cases hb : j = b
    · subst hb
      rw [List.getElem?_set_self (by simpa using hj)]
      simp [hj, fvalF, hr]
    · rw [List.getElem?_set_ne (Ne.symm hb)]
      have : (j : Int) ≠ (b : Int) := by omega
      simp [hj, fvalF, this]
  · rw [List.getElem?_eq_none (by simp; omega), List.getElem?_eq_none (by simp; omega)]
theorem obj_ref {G : mG} {m : Int → Int} {rf : Nat → Option Nat} {t n b v : Nat} (hr : nRf t b = true) : (List.range n).map (fvalF G m (fun j => if j = b then some v else rf j) t) = ((List.range n).map (fvalF G m rf t)).set b (.ref (gSz G + v)) := by
  refine List.ext_getElem? fun j => ?_
  by_cases hj : j < n
  · by_cases hb : j = b
    · subst hb
      rw [List.getElem?_set_self (by simpa using hj)]
      simp [hj, fvalF, hr, va_rf]
    · rw [List.getElem?_set_ne (Ne.symm hb)]
      simp [hj, fvalF, hb]
  · rw [List.getElem?_eq_none (by simp; omega), List.getElem?_eq_none (by simp; omega)]
theorem mrf_cons {sh : List (Nat × Nat)} {rf : List ((Nat × Nat) × Nat)} {m : mMem} {k b v : Nat} (j : Nat) : mrf ((sh, ((k, b), v) :: rf), m) j = if j = k then (fun i => if i = b then some v else mrf ((sh, rf), m) k i) else mrf ((sh, rf), m) j := by
  funext i
  unfold mrf
  rw [List.lookup_cons]
  by_cases hj : j = k
  · by_cases hi : i = b
    · subst hj; subst hi
      simp
    · have : ((j, i) == (k, b)) = false := by simp [hi]
      rw [this]
      simp [hj, hi]
  · have : ((j, i) == (k, b)) = false := by simp [hj]
    rw [this]
    simp [hj]
def shOK (sh : mSh) : Prop := (∀ k t n : Nat, sh.1[k]? = some (t + 3, n) → n = nN t ∧ t < 7) ∧ (∀ q ∈ sh.2, q.1.1 < sh.1.length) ∧ ∀ q ∈ sh.1, q.2 ≤ 1000
def gOK (G : mG) (h : mHp) (H : Heap) : Prop := va_P (gD G) classes (mW G h) H ∧ shOK h.1 ∧ ∀ k i, inR (h.2 k i)
theorem cls_at {t : Nat} (h : t < 7) : classes[t]? = some (nR t, nT t, nN t) := by
  unfold classes
  rw [List.getElem?_map, List.getElem?_range h]
  rfl
theorem u_in {t : Nat} (h : t < 7) : ∀ w ∈ u_ws (nR t) (nT t) (nN t), w ∈ mWS := by
  have key : ∀ t' : Nat, (∀ k ∈ List.range (nN t'), wAt ((nLp.getD t' []).getD k 0) (u_lay (nR t') (nT t') k)) → ∀ w ∈ u_ws (nR t') (nT t') (nN t'), w ∈ mWS := by
    intro t' hk w hw
    obtain ⟨k, h1, rfl⟩ := List.mem_map.mp hw
    refine wAt_in (hk k h1) ?_
    unfold u_lay
    split <;> rfl
  rcases (show t = 0 ∨ t = 1 ∨ t = 2 ∨ t = 3 ∨ t = 4 ∨ t = 5 ∨ t = 6 by omega) with rfl | rfl | rfl | rfl | rfl | rfl | rfl
  · exact key 0 nL_w0
  · exact key 1 nL_w1
  · exact key 2 nL_w2
  · exact key 3 nL_w3
  · exact key 4 nL_w4
  · exact key 5 nL_w5
  · exact key 6 nL_w6
theorem nTy_of {t k : Nat} (h : t < 7) (hk : k < nN t) : parseFieldDescriptor (nT t k).2.2.1 = some (nTy t k) ∧ (nRf t k = true → (nFk t k).2.2 = true ∧ ((∃ c, nTy t k = .object c) ∨ ∃ c, nTy t k = .array c)) ∧ (nRf t k = false → (nFk t k).2.2 = false ∧ ((nTy t k = .int ∧ (nFk t k).2.1 = "I") ∨ (nTy t k = .boolean ∧ (nFk t k).2.1 = "Z"))) := by
  have h1 := List.all_eq_true.mp (List.all_eq_true.mp nTy_all t (List.mem_range.mpr h)) k (List.mem_range.mpr hk)
  rw [Bool.and_eq_true, decide_eq_true_eq] at h1
  refine ⟨h1.1, fun hr => ?_, fun hr => ?_⟩
  · have h2 := h1.2
    rw [hr] at h2
    simp only [cond_true, Bool.and_eq_true] at h2
    refine ⟨h2.1, ?_⟩
    have h3 := h2.2
    split at h3
    · exact Or.inl ⟨_, by assumption⟩
    · exact Or.inr ⟨_, by assumption⟩
    · cases h3
  · have h2 := h1.2
    rw [hr] at h2
    simp only [cond_false, Bool.and_eq_true] at h2
    refine ⟨by simpa using h2.1, ?_⟩
    have h3 := h2.2
    split at h3
    · exact Or.inl ⟨by assumption, by simpa using h3⟩
    · exact Or.inr ⟨by assumption, by simpa using h3⟩
    · cases h3
theorem nNm_of {t : Nat} (h : t < 7) : ∀ a, a < nN t → ∀ b, b < nN t → a ≠ b → (nT t a).2.1 ≠ (nT t b).2.1 := by
  intro a ha b hb hab
  have h1 := List.all_eq_true.mp (List.all_eq_true.mp (List.all_eq_true.mp nNm_all t (List.mem_range.mpr h)) b (List.mem_range.mpr hb)) a (List.mem_range.mpr ha)
  simp only [Bool.or_eq_true, decide_eq_true_eq, Bool.not_eq_true'] at h1
  rcases h1 with h1 | h1
  · exact absurd h1 hab
  · show (nFk t a).1 ≠ (nFk t b).1
    simpa using h1
end
section
/-! SOUNDNESS 2: a frame of the machine that follows the rows -/
def ilen (i : Instr) : Nat := match i with
  | .bipush _ => 2
  | .sipush _ => 3
  | .ldc _ => 2
  | .ldc2_w _ => 3
  | .iload _ => 2
  | .aload _ => 2
  | .lload _ => 2
  | .istore _ => 2
  | .astore _ => 2
  | .lstore _ => 2
  | .iinc _ _ => 3
  | .goto _ => 3
  | .ifCond _ _ => 3
  | .if_icmp _ _ => 3
  | .getfield _ => 3
  | .putfield _ => 3
  | .new _ => 3
  | .newarray _ => 2
  | .anewarray _ => 3
  | .invokespecial _ => 3
  | .invokevirtual _ => 3
  | .invokestatic _ => 3
  | _ => 1
def lenOK (i : Instr) (len : Nat) : Bool := match i with
  | .tableswitch .. => true
  | _ => len == ilen i
def lkF (own idx a b : Nat) : Bool := match lFl.lookup (own, idx) with
  | some (ci, k, _) => ci == a && k == b
  | none => false
def lkM (own idx a : Nat) : Bool := match lMl.lookup (own, idx) with
  | some (y, _) => y == a
  | none => false
def lkN (own idx a : Nat) : Bool := match lNs.lookup (own, idx) with
  | some y => y == a
  | none => false
def lkS (own idx a : Nat) : Bool := match lSp.lookup (own, idx) with
  | some (y, _) => y == a
  | none => false
def lkC (own idx a : Nat) : Bool := match lCl.lookup (own, idx) with
  | some (y, _) => y == a
  | none => false
def lkI (own idx : Nat) (z : Int) : Bool := match lCi.lookup (own, idx) with
  | some (y, _) => y == z
  | none => false
def lkL (own idx : Nat) (z : Int) : Bool := match lCL.lookup (own, idx) with
  | some (y, _) => y == z
  | none => false
/-- how deep a method's calls go on the machine, where it reads literals -/
def nNeed (y : Nat) : Nat := bif y == 37 then 5 else bif y == 36 then 6 else bif y == 31 then 7 else bif y == 47 then 8 else 0
def xOK (own nL : Nat) (rt : Option FieldType) (ini : Bool) (nd pc : Nat) (ins : Instr) (a b : Nat) (z : Int) (ts : List Nat) : Bool := match ins with
  | .iconst n => decide (-128 ≤ n) && decide (n < 128)
  | .bipush n => decide (-128 ≤ n) && decide (n < 128)
  | .sipush n => decide (-32768 ≤ n) && decide (n < 32768)
  | .ldc idx => bif b == 0 then lkI own idx z else (own == 4 && Nat.blt a 6 && lSt.getD a 0 == idx)
  | .ldc2_w idx => lkL own idx z
  | .istore_n i => Nat.blt i.val nL
  | .istore i => Nat.blt i nL
  | .astore_n i => Nat.blt i.val nL
  | .astore i => Nat.blt i nL
  | .lstore_n i => Nat.blt (i.val + 1) nL
  | .lstore i => Nat.blt (i + 1) nL
  | .iinc i n => Nat.blt i nL && decide (-128 ≤ n) && decide (n < 128)
  | .goto off => decide ((pc : Int) + off = (a : Nat))
  | .ifCond _ off => decide ((pc : Int) + off = (a : Nat))
  | .if_icmp _ off => decide ((pc : Int) + off = (a : Nat))
  | .tableswitch d lo hi offs => decide (lo = 0) && decide (hi = (ts.length : Int) - 1) && decide ((pc : Int) + d = (a : Nat)) && decide (offs.toList.map (fun o => (pc : Int) + o) = ts.map (fun t => ((t : Nat) : Int))) && Nat.blt ts.length 100
  | .getfield idx => lkF own idx a b && ((z == 1) == nRf a b)
  | .putfield idx => lkF own idx a b && ((z == 1) == nRf a b) && (z == 1 || ((z == 2) == ((nFk a b).2.1 == "Z"))) && (!(z == 1) || (ini && own == a))
  | .new idx => lkC own idx a && b == nN a
  | .anewarray idx => lkC own idx 3
  | .newarray t => (a == 0 && decide (t = .int)) || (a == 1 && decide (t = .boolean))
  | .invokespecial idx => bif a == 9000 then (lOb.lookup (own, idx)).isSome else ((lkM own idx a || lkN own idx a) && mInitL.contains a && !mStc a && b == npar a + 1 && Nat.blt a 191 && decide (mRt a = none) && nNeed a == 0)
  | .invokevirtual idx => bif decide (z < 3) then (lkM own idx a && !mStc a && !(mInitL.contains a) && b == npar a + 1 && ts == [mOw a + 3] && Nat.blt a 191 && (nNeed a == 0 || Nat.blt (nNeed a) nd)) else bif z == 5 then (lkS own idx 15 && b == 1 && Nat.ble 5 nd) else (lkS own idx 16 && b == 2 && Nat.ble 5 nd)
  | .invokestatic idx => bif decide (z < 3) then (lkM own idx a && mStc a && b == npar a && Nat.blt a 191 && (nNeed a == 0 || Nat.blt (nNeed a) nd)) else (lkS own idx z.toNat && (b == bif z == 3 then 5 else 2))
  | .ireturn => bif z == 1 then decide (rt = some .boolean) else decide (rt = some .int)
  | .lreturn => decide (rt = some .long)
  | .return_ => decide (rt = none)
  | _ => true
def bOK (own : Nat) (cc : ByteArray) (nL : Nat) (rt : Option FieldType) (ini : Bool) (nd : Nat) : Nat → List mRow → Bool
  | _, [] => true
  | pc, (ins, len, a, b, z, ts) :: rows => decide (decode cc pc = .ok (ins, len)) && lenOK ins len && xOK own nL rt ini nd pc ins a b z ts && bOK own cc nL rt ini nd (pc + len) rows
def tLV (G : mG) (lv : mLV) : List (Nat × Value) := lv.map fun q => (q.1, toV G q.2)
theorem tLV_lset (G : mG) (i : Nat) (v : mVal) (lv : mLV) : (i, toV G v) :: (tLV G lv).filter (fun q => !(q.1 == i) && !(q.1 + 1 == i && q.2.category == 2)) = tLV G (lset i v lv) := by
  unfold lset tLV
  rw [List.map_cons, List.filter_map]
  congr 3
  funext q
  simp [toV_cat]
theorem tLV_lset2 (G : mG) (i : Nat) (v : mVal) (lv : mLV) : (i, toV G v) :: (tLV G lv).filter (fun q => !(q.1 == i) && (!(q.1 == i + 1) && !(q.1 + 1 == i && q.2.category == 2))) = tLV G (lset2 i v lv) := by
  unfold lset2 tLV
  rw [List.map_cons, List.filter_map]
  congr 3
  funext q
  simp [toV_cat]
theorem lset_ok {i : Nat} {v : mVal} {lv : mLV} (hv : okV v) (h : ∀ q ∈ lv, okV q.2) : ∀ q ∈ lset i v lv, okV q.2 := by
  intro q hq
  rcases List.mem_cons.mp hq with rfl | hq
  · exact hv
  · exact h q (List.mem_filter.mp hq).1
theorem lset2_ok {i : Nat} {v : mVal} {lv : mLV} (hv : okV v) (h : ∀ q ∈ lv, okV q.2) : ∀ q ∈ lset2 i v lv, okV q.2 := by
  intro q hq
  rcases List.mem_cons.mp hq with rfl | hq
  · exact hv
  · exact h q (List.mem_filter.mp hq).1
theorem lk_mem {α β : Type} [BEq α] [LawfulBEq α] {l : List (α × β)} {k : α} {v : β} (h : l.lookup k = some v) : (k, v) ∈ l := by
  induction l with
  | nil => simp at h
  | cons q l ih =>
    obtain ⟨a, b⟩ := q
    rw [List.lookup_cons] at h
    cases hk : (k == a) with
    | true =>
      rw [hk] at h
      cases h
      rw [eq_of_beq hk]
      exact List.mem_cons_self
    | false =>
      rw [hk] at h
      exact List.mem_cons_of_mem _ (ih h)
theorem lpick_sub (lb : List (Nat × List Nat)) (t : Nat) (lv : mLV) : ∀ q ∈ lpick lb t lv, q ∈ lv := by
  intro q hq
  obtain ⟨i, -, hi⟩ := List.mem_filterMap.mp hq
  cases h : lv.lookup i with
  | none => rw [h] at hi; cases hi
  | some v =>
    rw [h] at hi
    cases hi
    exact lk_mem h
theorem lv_tsub {G : mG} {ls : Array Slot} {nL : Nat} {lv lv' : mLV} (h : lv_has ls nL (tLV G lv)) (hs : ∀ q ∈ lv', q ∈ lv) : lv_has ls nL (tLV G lv') := by
  refine ⟨h.1, h.2.1, fun q hq => ?_⟩
  obtain ⟨x, hx, rfl⟩ := List.mem_map.mp hq
  exact h.2.2 _ (List.mem_map.mpr ⟨x, hs x hx, rfl⟩)
theorem lgetI_e {lv : mLV} {i : Nat} {k : Int → Prop} (h : lgetI lv i k) : ∃ v, (i, vi v) ∈ lv ∧ k v := by
  unfold lgetI at h
  split at h
  · exact ⟨_, lk_mem (by assumption), h⟩
  · exact h.elim
theorem lgetL_e {lv : mLV} {i : Nat} {k : Int → Prop} (h : lgetL lv i k) : ∃ v, (i, vl v) ∈ lv ∧ k v := by
  unfold lgetL at h
  split at h
  · exact ⟨_, lk_mem (by assumption), h⟩
  · exact h.elim
theorem lgetA_e {lv : mLV} {i : Nat} {k : Nat ⊕ Nat → Prop} (h : lgetA lv i k) : ∃ v, (i, .inr (.inr v)) ∈ lv ∧ k v := by
  unfold lgetA at h
  split at h
  · exact ⟨_, lk_mem (by assumption), h⟩
  · exact h.elim
theorem mI_e {st : List mVal} {k : Int → List mVal → Prop} (h : mI st k) : ∃ x r, st = vi x :: r ∧ k x r := by
  unfold mI at h
  split at h
  · exact ⟨_, _, rfl, h⟩
  · exact h.elim
theorem mL_e {st : List mVal} {k : Int → List mVal → Prop} (h : mL st k) : ∃ x r, st = vl x :: r ∧ k x r := by
  unfold mL at h
  split at h
  · exact ⟨_, _, rfl, h⟩
  · exact h.elim
theorem mR_e {st : List mVal} {k : Nat → List mVal → Prop} (h : mR st k) : ∃ x r, st = vr x :: r ∧ k x r := by
  unfold mR at h
  split at h
  · exact ⟨_, _, rfl, h⟩
  · exact h.elim
theorem mA_e {st : List mVal} {k : mVal → List mVal → Prop} (h : mA st k) : ∃ x r, st = x :: r ∧ k x r := by
  unfold mA at h
  split at h
  · exact ⟨_, _, rfl, h⟩
  · exact h.elim
theorem mTag_e {sh : mSh} {k t : Nat} {c : Nat → Prop} (h : mTag sh k t c) : ∃ n, sh.1[k]? = some (t, n) ∧ c n := by
  unfold mTag at h
  split at h
  · rename_i t' n hq
    cases ht : (t' == t) with
    | true =>
      rw [ht] at h
      rw [eq_of_beq ht] at hq
      exact ⟨n, hq, h⟩
    | false => rw [ht] at h; exact h.elim
  · exact h.elim
theorem mRef_e {sh : mSh} {k j : Nat} {c : Nat → Prop} (h : mRef sh k j c) : ∃ t, sh.2.lookup (k, j) = some t ∧ c t := by
  unfold mRef at h
  split at h
  · exact ⟨_, by assumption, h⟩
  · exact h.elim
theorem toV_A (G : mG) (v : Nat ⊕ Nat) : ∃ x, toV G (.inr (.inr v)) = .ref x := by
  rcases v with k | i
  · exact ⟨_, rfl⟩
  · cases i <;> exact ⟨_, rfl⟩
end
section
/-! SOUNDNESS 3: what a frame knows; a step of a frame -/
def slen : List Nat := [3, 6, 6, 6, 5, 5]
def sbyt : List (List Int32) := [[114, 111, 119], [116, 104, 114, 101, 97, 100], [98, 101, 115, 105, 100, 101], [109, 105, 114, 114, 111, 114], [97, 98, 111, 118, 101], [99, 114, 111, 115, 115]]
def gStr (G : mG) (U : State) (H : Heap) : Prop := (∃ adV : Nat → Nat, vk_S 6 slen sbyt (gK G) adV (gA G) U H) ∧ va_Z "java/lang/String" "COMPACT_STRINGS" "Z" (.int 1) (gA G) U H ∧ va_Zq "jdk/internal/util/Preconditions" "SIOOBE_FORMATTER" "Ljava/util/function/BiFunction;" (gA G) U H
def gW (G : mG) (U : State) (H : Heap) : Prop := va_K (gD G) classes (mtys G) U ∧ (∀ q ∈ lNs, va_Nw (.methodLinkNest (nR q.1.1) q.1.2 (mY q.2) "SamplerLaw") U) ∧ va_AO (nR 3) U ∧ (∀ i : Nat, i < 6 → vk_R (nR 4) (lSt.getD i 0) (lStT.getD i "") (gK G i) U) ∧ gStr G U H
theorem gW_call {G : mG} {U : State} {H : Heap} (g : JFrame) (mk : MethodId) (a : Array Value) (h : gW G U H) : gW G (U.calling g mk a) H := by
  obtain ⟨h1, h2, h3, h4, ⟨adV, h5⟩, h6, h7⟩ := h
  exact ⟨va_K.moved (Vm.Alike.refl U.vm) h1, fun q hq => va_Nw.same rfl rfl (h2 q hq), va_AO.moved (Vm.Alike.refl U.vm) h3, fun i hi => vk_R.same rfl (h4 i hi), ⟨adV, vk_S.moved (Vm.Alike.refl U.vm) h5⟩, va_Z.moved (Vm.Alike.refl U.vm) h6, h7.imp (fun q => va_Z.moved (Vm.Alike.refl U.vm) q) (fun ⟨f, q⟩ => ⟨f, va_Z.moved (Vm.Alike.refl U.vm) q⟩)⟩
theorem gW_warm {G : mG} {s U : State} {H0 H : Heap} (hW : s.WarmedH U.vm) (hk : ∀ q : Nat, q < H0.size → ¬ gA G q → H[q]? = H0[q]?) (h : gW G s H0) : gW G U H := by
  obtain ⟨h1, h2, h3, h4, ⟨adV, h5⟩, h6, h7⟩ := h
  exact ⟨va_K.moved hW.alike h1, fun q hq => va_Nw.warmM hW (h2 q hq), va_AO.moved hW.alike h3, fun i hi => vk_R.warm hW (h4 i hi), ⟨adV, (vk_S.moved hW.alike h5).kept hk⟩, (va_Z.moved hW.alike h6).kept hk, h7.imp (fun q => (va_Z.moved hW.alike q).kept hk) (fun ⟨f, q⟩ => ⟨f, (va_Z.moved hW.alike q).kept hk⟩)⟩
def mroom (d mc ms : Nat) : Room := { frames := d, cells := mc, slots := ms, locals := 33 * d }
def mws (y : Nat) : List Jvm.Cond := .code (mY y) (mCo y) (mMx y) (mRt y) :: mWS
def mPre (G : mG) (h : mHp) (U : State) : Prop := gW G U U.heap ∧ gOK G h U.heap ∧ gSz G ≤ U.heap.size ∧ U.heap.size ≤ gSz G + h.1.1.length
def mPost (G : mG) (r : Option mVal × mHp) : Array Value → State → Outcome → State → Prop := fun _ st oc t => (oc = .returned (r.1.map (toV G)) ∧ (∀ v ∈ r.1.toList, okV v) ∧ gOK G r.2 t.heap) ∧ va_F (gA G) st t
/-- method y, as a contract over the machine -/
def mMet (G : mG) (l : Launch) (d y : Nat) (as : List mVal) (h : mHp) (r : Option mVal × mHp) : Prop := ∀ mc ms : Nat, r.2.1.1.length = h.1.1.length + mc → mtot r.2.1.1 = mtot h.1.1 + ms → (∀ v ∈ as, okV v) → Met l (mY y) (mws y) (mroom d mc ms) (va_Pc (as.map (toV G)) (mPre G h)) (mPost G r) mc ms (gA G)
section
variable {p : Program} {l : Launch} {e : Env} {R : Room} {s : State} {m : MethodId} {args : Array Value} {below : List Frame} {meth : Method} {c : Code} {H : Heap} {locs : List Loc} {cells slots : Nat} {Q : State → Prop}
/-- what W may use of the heap's size -/
theorem W_sz {g : JFrame} (k : H.size ≤ s.heap.size + cells → W p l e R s m args below meth c H locs cells slots Q g) : W p l e R s m args below meth c H locs cells slots Q g := by
  intro T hT X
  have h1 : T.heap.size ≤ s.heap.size + cells := X.same.2.2.1
  exact k (by rw [← hT]; exact h1) T hT X
/-- behind a call -/
theorem W_call {G : mG} {pc : Nat} {ls : Array Slot} {st0 rest : List Value} {r : Option mVal × mHp} {a : Array Value} {mc ms : Nat} (hr : va_Run p l e R s m args below meth c H locs cells slots mc ms (F0 m pc ls st0) rest (mPost G r a) (gA G)) (hS : va_S (gA G) s.heap H locs)
    (kk : (∀ v ∈ r.1.toList, okV v) → ∀ (H1 : Heap) (locs1 : List Loc), gOK G r.2 H1 → va_S (gA G) s.heap H1 locs1 → W p l e R s m args below meth c H1 locs1 (cells + mc) (slots + ms) Q (F0 m (pc + 3) ls ((r.1.map (toV G)).toList ++ rest))) : W p l e R s m args below meth c H locs cells slots Q (F0 m pc ls st0) := by
  intro T hT X
  obtain ⟨v, st₀, t, T', L, h0, X', hL, e1, e2, ⟨⟨hv, hok, hg⟩, hz, hk⟩, st⟩ := hr T hT X
  cases hv
  rw [h0] at hz hk
  obtain ⟨t2, a1, b1⟩ := kk hok T'.heap (locs ++ L) (by rw [e1]; exact hg) ⟨Nat.le_trans hS.1 (by rw [e1]; exact hz), fun q h1 h2 => by rw [e1, hk q (Nat.lt_of_lt_of_le h1 hS.1) h2]; exact hS.2.1 q h1 h2, fun q hq => by
      rcases List.mem_append.mp hq with h | h
      · exact hS.2.2 q h
      · exact hL q h⟩ T' rfl X'
  exact ⟨t2, st t2 a1, b1⟩
end
/-- what a frame of a method with that code knows -/
def mXf (G : mG) (l : Launch) (own nL : Nat) (rt : Option FieldType) (ini : Bool) (cc : ByteArray) (d c0 s0 : Nat) (lim : Nat × Nat) (scr : Nat × (Nat → Int)) (p : Program) (R : Room) (s : State) (m : MethodId) (args : Array Value) (meth : Method) (c : Code) : Prop :=
  (p.tables.exec = Jvm.exec ∧ c.code = cc ∧ c.maxLocals = nL ∧ s.vm.findClass (nR own) = some m.cls ∧ (∀ w ∈ mWS, w.before args s = true)) ∧ gW G s s.heap ∧ (gSz G ≤ s.heap.size ∧ s.heap.size ≤ gSz G + c0) ∧ (ini = true → meth.name = "<init>") ∧ (d + 1 ≤ R.frames ∧ 33 * d + 33 ≤ R.locals) ∧ (lim.1 ≤ c0 + R.cells ∧ lim.2 ≤ s0 + R.slots) ∧ (scr.1 = 0 ∨ (va_X (gB G) (scr.1 - 1) (fun j => Int32.ofInt (scr.2 j)) s s.heap ∧ gB G < gSz G ∧ (∀ j, inR (scr.2 j)) ∧ scr.1 ≤ 1000))
def mV (G : mG) (p : Program) (l : Launch) (e : Env) (R : Room) (s : State) (m : MethodId) (args : Array Value) (below : List Frame) (meth : Method) (c : Code) (Q : State → Prop) (nL c0 s0 : Nat) (pc : Nat) (lv : mLV) (st : List mVal) (h : mHp) : Prop :=
  (∀ q ∈ lv, okV q.2) → (∀ v ∈ st, okV v) → ((c0 ≤ h.1.1.length ∧ s0 ≤ mtot h.1.1) ∧ h.1.1.length ≤ c0 + R.cells ∧ mtot h.1.1 ≤ s0 + R.slots) → ∀ (H : Heap) (locs : List Loc) (ls : Array Slot), gOK G h H → va_S (gA G) s.heap H locs → lv_has ls nL (tLV G lv) → W p l e R s m args below meth c H locs (h.1.1.length - c0) (mtot h.1.1 - s0) Q (F0 m pc ls (st.map (toV G)))
end
section
/-! SOUNDNESS 4: a frame follows its rows -/
section
variable {G : mG} {l : Launch} {own nL : Nat} {rt : Option FieldType} {ini : Bool} {cc : ByteArray} {d c0 s0 : Nat} {lim : Nat × Nat} {scr : Nat × (Nat → Int)} {p : Program} {e : Env} {R : Room} {s : State} {m : MethodId} {args : Array Value} {below : List Frame} {meth : Method} {c : Code} {Q : State → Prop} {pc : Nat} {lv : mLV} {st : List mVal} {h : mHp}
theorem okc {x : mVal} {r : List mVal} (h : okV x) (hr : ∀ v ∈ r, okV v) : ∀ v ∈ x :: r, okV v := List.forall_mem_cons.mpr ⟨h, hr⟩
theorem okt {x : mVal} {r : List mVal} (h : ∀ v ∈ x :: r, okV v) : okV x ∧ ∀ v ∈ r, okV v := List.forall_mem_cons.mp h
theorem cat_sum (G : mG) (r : List mVal) : ((r.map (toV G)).map fun v => v.category).sum = (r.map mcat).sum := by
  rw [List.map_map]
  congr 1
  refine List.map_congr_left fun v _ => toV_cat G v
/-- a jump: fewer locals are asked for there -/
theorem V_jump {lb : List (Nat × List Nat)} {t : Nat} {lv : mLV} {st : List mVal} {h : mHp} (k : mV G p l e R s m args below meth c Q nL c0 s0 t (lpick lb t lv) st h) : mV G p l e R s m args below meth c Q nL c0 s0 t lv st h := by
  intro h1 h2 h3 H locs ls hg hS hl
  exact k (fun q hq => h1 q (lpick_sub lb t lv q hq)) h2 h3 H locs ls hg hS (lv_tsub hl (lpick_sub lb t lv))
theorem lv_of {G : mG} {ls : Array Slot} {nL : Nat} {lv : mLV} {i : Nat} {v : mVal} (hl : lv_has ls nL (tLV G lv)) (hv : (i, v) ∈ lv) : ls[i]? = some (.val (toV G v)) := hl.2.2 (i, toV G v) (List.mem_map.mpr ⟨(i, v), hv, rfl⟩)
theorem lv_idx {G : mG} {lv : mLV} {i : Nat} {v : mVal} (hv : (i, v) ∈ lv) : ∃ k : Nat, (tLV G lv)[k]? = some (i, toV G v) := by
  obtain ⟨k, hk⟩ := List.getElem?_of_mem hv
  exact ⟨k, by unfold tLV; rw [List.getElem?_map, hk]; rfl⟩
/-- an int field is read -/
theorem V_getI (X : mXf G l own nL rt ini cc d c0 s0 lim scr p R s m args meth c) {idx a b k n : Nat} {r : List mVal} (hlk : lkF own idx a b = true) (hrf : nRf a b = false) (ht : h.1.1[k]? = some (a + 3, n)) (hd : decode cc pc = .ok (.getfield idx, 3))
    (kk : mV G p l e R s m args below meth c Q nL c0 s0 (pc + 3) lv (vi (h.2 k (b : Nat)) :: r) h) : mV G p l e R s m args below meth c Q nL c0 s0 pc lv (vr k :: r) h := by
  intro h1 h2 h3 H locs ls hg hS hl
  obtain ⟨⟨hx, hb, hml, hown, hts⟩, hG, -⟩ := X
  unfold lkF at hlk
  split at hlk
  · rename_i ci kf pos hq
    rw [Bool.and_eq_true] at hlk
    have e1 := (eq_of_beq hlk.1).symm
    have e2 := (eq_of_beq hlk.2).symm
    subst e1; subst e2
    have hm := lk_mem hq
    have hw := wAt_in (lFl_w _ hm) rfl
    have hb1 := List.all_eq_true.mp lFl_b _ hm
    simp only [Bool.and_eq_true, decide_eq_true_eq] at hb1
    obtain ⟨rfl, ha7⟩ := hg.2.1.1 k a n ht
    refine va_get (C := nR a) (T := nT a) (N := nN a) (ci := a) (own := nR own) (ref := nR a) (index := idx) hx hb hts (u_in ha7) hown hG.1 hg.1 k (mW_at ht) (cls_at ha7) b hb1.2 (hts _ hw) (fun _ h => h) (v := .int (Int32.ofInt (h.2 k (b : Nat)))) ?_ hd (kk h1 (okc (hg.2.2 _ _) (okt h2).2) h3 H locs ls hg hS hl)
    rw [List.getElem?_map, List.getElem?_range hb1.2]
    simp [fvalF, hrf]
  · cases hlk
/-- a reference is read -/
theorem V_getR (X : mXf G l own nL rt ini cc d c0 s0 lim scr p R s m args meth c) {idx a b k n t : Nat} {r : List mVal} (hlk : lkF own idx a b = true) (hrf : nRf a b = true) (ht : h.1.1[k]? = some (a + 3, n)) (hr : h.1.2.lookup (k, b) = some t) (hd : decode cc pc = .ok (.getfield idx, 3))
    (kk : mV G p l e R s m args below meth c Q nL c0 s0 (pc + 3) lv (vr t :: r) h) : mV G p l e R s m args below meth c Q nL c0 s0 pc lv (vr k :: r) h := by
  intro h1 h2 h3 H locs ls hg hS hl
  obtain ⟨⟨hx, hb, hml, hown, hts⟩, hG, -⟩ := X
  unfold lkF at hlk
  split at hlk
  · rename_i ci kf pos hq
    rw [Bool.and_eq_true] at hlk
    have e1 := (eq_of_beq hlk.1).symm
    have e2 := (eq_of_beq hlk.2).symm
    subst e1; subst e2
    have hm := lk_mem hq
    have hw := wAt_in (lFl_w _ hm) rfl
    have hb1 := List.all_eq_true.mp lFl_b _ hm
    simp only [Bool.and_eq_true, decide_eq_true_eq] at hb1
    obtain ⟨rfl, ha7⟩ := hg.2.1.1 k a n ht
    refine va_get (C := nR a) (T := nT a) (N := nN a) (ci := a) (own := nR own) (ref := nR a) (index := idx) hx hb hts (u_in ha7) hown hG.1 hg.1 k (mW_at ht) (cls_at ha7) b hb1.2 (hts _ hw) (fun _ h => h) (v := .ref (gSz G + t)) ?_ hd (kk h1 (okc trivial (okt h2).2) h3 H locs ls hg hS hl)
    rw [List.getElem?_map, List.getElem?_range hb1.2]
    simp [fvalF, hrf, mrf, hr, va_rf]
  · cases hlk
/-- an int field is written -/
theorem V_putI (X : mXf G l own nL rt ini cc d c0 s0 lim scr p R s m args meth c) {idx a b k n : Nat} {v : Int} {r : List mVal} (hlk : lkF own idx a b = true) (hrf : nRf a b = false) (hz : (nFk a b).2.1 = "Z" → v = 0 ∨ v = 1) (ht : h.1.1[k]? = some (a + 3, n)) (hd : decode cc pc = .ok (.putfield idx, 3))
    (kk : mV G p l e R s m args below meth c Q nL c0 s0 (pc + 3) lv r (h.1, mupd h.2 k (b : Nat) v)) : mV G p l e R s m args below meth c Q nL c0 s0 pc lv (vi v :: vr k :: r) h := by
  intro h1 h2 h3 H locs ls hg hS hl
  obtain ⟨⟨hx, hb, hml, hown, hts⟩, hG, -⟩ := X
  have hv : inR v := (okt h2).1
  unfold lkF at hlk
  split at hlk
  · rename_i ci kf pos hq
    rw [Bool.and_eq_true] at hlk
    have e1 := (eq_of_beq hlk.1).symm
    have e2 := (eq_of_beq hlk.2).symm
    subst e1; subst e2
    have hm := lk_mem hq
    have hw := wAt_in (lFl_w _ hm) rfl
    have hb1 := List.all_eq_true.mp lFl_b _ hm
    simp only [Bool.and_eq_true, decide_eq_true_eq] at hb1
    obtain ⟨rfl, ha7⟩ := hg.2.1.1 k a n ht
    have hty := nTy_of ha7 hb1.2
    obtain ⟨hfin, hkind⟩ := hty.2.2 hrf
    have hnf : narrow (nTy a b) (.int (Int32.ofInt v)) = .int (Int32.ofInt v) ∧ fits (nTy a b) (.int (Int32.ofInt v)) = true := by
      rcases hkind with ⟨e, -⟩ | ⟨e, e2⟩
      · rw [e]; exact ⟨rfl, rfl⟩
      · rw [e]
        rcases hz e2 with rfl | rfl <;> exact ⟨by decide, by decide⟩
    refine va_put (C := nR a) (T := nT a) (N := nN a) (ci := a) (own := nR own) (ref := nR a) (index := idx) hx hb hts (u_in ha7) (nTy a) (fun k hk => (nTy_of ha7 hk).1) (nNm_of ha7) hown hG.1 hg.1 (mW_D G h) hS k (mW_at ht) (cls_at ha7) b hb1.2 (hts _ hw) (fun _ h => h) hfin hty.1 hnf.1 hnf.2 (by simpa using hb1.2) hd (fun H1 locs1 hP1 _ hS1 => ?_)
    refine kk h1 (okt (okt h2).2).2 h3 H1 locs1 ls ⟨?_, hg.2.1, mupd_in hg.2.2 hv⟩ hS1 hl
    rw [mW_set (h := h) (h' := (h.1, mupd h.2 k (b : Nat) v)) ht rfl (fun j hj => ⟨mupd_o _ _ _ hj, rfl⟩)]
    have e3 : wentF G ((h.1, mupd h.2 k (b : Nat) v).2 k) (mrf (h.1, mupd h.2 k (b : Nat) v) k) (a + 3, nN a) = .inr (a, ((List.range (nN a)).map (fvalF G (h.2 k) (mrf h k) a)).set b (.int (Int32.ofInt v))) := by
      show Sum.inr (a, (List.range (nN a)).map (fvalF G (mupd h.2 k (b : Nat) v k) (mrf h k) a)) = _
      rw [mupd_k, obj_upd hrf]
    rw [e3]
    exact hP1
  · cases hlk
/-- a reference is written (a final field, in a constructor) -/
theorem V_putR (X : mXf G l own nL rt ini cc d c0 s0 lim scr p R s m args meth c) {idx a b k n v : Nat} {r : List mVal} (hlk : lkF own idx a b = true) (hrf : nRf a b = true) (hini : ini = true) (hoa : own = a) (ht : h.1.1[k]? = some (a + 3, n)) (hd : decode cc pc = .ok (.putfield idx, 3))
    (kk : mV G p l e R s m args below meth c Q nL c0 s0 (pc + 3) lv r ((h.1.1, ((k, b), v) :: h.1.2), h.2)) : mV G p l e R s m args below meth c Q nL c0 s0 pc lv (vr v :: vr k :: r) h := by
  intro h1 h2 h3 H locs ls hg hS hl
  obtain ⟨⟨hx, hb, hml, hown, hts⟩, hG, -, hin, -⟩ := X
  unfold lkF at hlk
  split at hlk
  · rename_i ci kf pos hq
    rw [Bool.and_eq_true] at hlk
    have e1 := (eq_of_beq hlk.1).symm
    have e2 := (eq_of_beq hlk.2).symm
    subst e1; subst e2
    have hm := lk_mem hq
    have hw := wAt_in (lFl_w _ hm) rfl
    have hb1 := List.all_eq_true.mp lFl_b _ hm
    simp only [Bool.and_eq_true, decide_eq_true_eq] at hb1
    obtain ⟨rfl, ha7⟩ := hg.2.1.1 k a n ht
    have hty := nTy_of ha7 hb1.2
    obtain ⟨hfin, hkind⟩ := hty.2.1 hrf
    have hnf : narrow (nTy a b) (.ref (gSz G + v)) = .ref (gSz G + v) ∧ fits (nTy a b) (.ref (gSz G + v)) = true := by
      rcases hkind with ⟨x, e⟩ | ⟨x, e⟩ <;> (rw [e]; exact ⟨rfl, rfl⟩)
    refine va_putF (C := nR a) (T := nT a) (N := nN a) (ci := a) (own := nR own) (ref := nR a) (index := idx) hx hb hts (u_in ha7) (nTy a) (fun k hk => (nTy_of ha7 hk).1) (nNm_of ha7) hown hG.1 hg.1 (mW_D G h) hS k (mW_at ht) (cls_at ha7) b hb1.2 (hts _ hw) (fun _ h => h) hfin (hin hini) (by show nR a = nR own; rw [hoa]) hty.1 hnf.1 hnf.2 (by simpa using hb1.2) hd (fun H1 locs1 hP1 _ hS1 => ?_)
    refine kk h1 (okt (okt h2).2).2 h3 H1 locs1 ls ⟨?_, ⟨hg.2.1.1, fun q hq => ?_, hg.2.1.2.2⟩, hg.2.2⟩ hS1 hl
    · rw [mW_set (h := h) (h' := ((h.1.1, ((k, b), v) :: h.1.2), h.2)) ht rfl (fun j hj => ⟨rfl, by first | (rw [mrf_cons, if_neg hj]; done) | (rw [mrf_cons, if_neg hj]; rfl)⟩)]
      have e3 : wentF G (((h.1.1, ((k, b), v) :: h.1.2), h.2).2 k) (mrf ((h.1.1, ((k, b), v) :: h.1.2), h.2) k) (a + 3, nN a) = .inr (a, ((List.range (nN a)).map (fvalF G (h.2 k) (mrf h k) a)).set b (.ref (gSz G + v))) := by
        rw [mrf_cons, if_pos rfl]
        show Sum.inr (a, (List.range (nN a)).map (fvalF G (h.2 k) (fun j => if j = b then some v else mrf h k j) a)) = _
        rw [obj_ref hrf]
      rw [e3]
      exact hP1
    · rcases List.mem_cons.mp hq with rfl | hq
      · exact (List.getElem?_eq_some_iff.mp ht).1
      · exact hg.2.1.2.1 q hq
  · cases hlk
/-- an element of a row of ints is read -/
theorem V_iald (X : mXf G l own nL rt ini cc d c0 s0 lim scr p R s m args meth c) {k n : Nat} {i : Int} {r : List mVal} (ht : h.1.1[k]? = some (0, n)) (hi0 : 0 ≤ i) (hi1 : i < (n : Int)) (hd : decode cc pc = .ok (.iaload, 1))
    (kk : mV G p l e R s m args below meth c Q nL c0 s0 (pc + 1) lv (vi (h.2 k i) :: r) h) : mV G p l e R s m args below meth c Q nL c0 s0 pc lv (vi i :: vr k :: r) h := by
  intro h1 h2 h3 H locs ls hg hS hl
  obtain ⟨⟨hx, hb, hml, hown, hts⟩, hG, -⟩ := X
  have hi : inR i := (okt h2).1
  refine va_iald hx hb hG.1 hg.1 k 0 (mW_at ht) rfl (i_in hi hi0 hi1) hd ?_
  have e1 : (((Int32.ofInt i).toNatClampNeg : Nat) : Int) = i := by rw [i_clamp hi]; omega
  show W p l e R s m args below meth c H locs (h.1.1.length - c0) (mtot h.1.1 - s0) Q (F0 m (pc + 1) ls (.int (Int32.ofInt (h.2 k (((Int32.ofInt i).toNatClampNeg : Nat) : Int))) :: r.map (toV G)))
  rw [e1]
  exact kk h1 (okc (hg.2.2 _ _) (okt (okt h2).2).2) h3 H locs ls hg hS hl
theorem V_zald (X : mXf G l own nL rt ini cc d c0 s0 lim scr p R s m args meth c) {k n : Nat} {i : Int} {r : List mVal} (ht : h.1.1[k]? = some (1, n)) (hi0 : 0 ≤ i) (hi1 : i < (n : Int)) (hd : decode cc pc = .ok (.baload, 1))
    (kk : mV G p l e R s m args below meth c Q nL c0 s0 (pc + 1) lv (vi (h.2 k i) :: r) h) : mV G p l e R s m args below meth c Q nL c0 s0 pc lv (vi i :: vr k :: r) h := by
  intro h1 h2 h3 H locs ls hg hS hl
  obtain ⟨⟨hx, hb, hml, hown, hts⟩, hG, -⟩ := X
  have hi : inR i := (okt h2).1
  refine va_zald hx hb hG.1 hg.1 k 1 (mW_at ht) rfl (i_in hi hi0 hi1) hd ?_
  have e1 : (((Int32.ofInt i).toNatClampNeg : Nat) : Int) = i := by rw [i_clamp hi]; omega
  show W p l e R s m args below meth c H locs (h.1.1.length - c0) (mtot h.1.1 - s0) Q (F0 m (pc + 1) ls (.int (Int32.ofInt (h.2 k (((Int32.ofInt i).toNatClampNeg : Nat) : Int))) :: r.map (toV G)))
  rw [e1]
  exact kk h1 (okc (hg.2.2 _ _) (okt (okt h2).2).2) h3 H locs ls hg hS hl
theorem V_iast (X : mXf G l own nL rt ini cc d c0 s0 lim scr p R s m args meth c) {k n : Nat} {i v : Int} {r : List mVal} (ht : h.1.1[k]? = some (0, n)) (hi0 : 0 ≤ i) (hi1 : i < (n : Int)) (hd : decode cc pc = .ok (.iastore, 1))
    (kk : mV G p l e R s m args below meth c Q nL c0 s0 (pc + 1) lv r (h.1, mupd h.2 k i v)) : mV G p l e R s m args below meth c Q nL c0 s0 pc lv (vi v :: vi i :: vr k :: r) h := by
  intro h1 h2 h3 H locs ls hg hS hl
  obtain ⟨⟨hx, hb, hml, hown, hts⟩, hG, -⟩ := X
  have hv : inR v := (okt h2).1
  have hi : inR i := (okt (okt h2).2).1
  refine va_iast hx hb hG.1 hg.1 (mW_D G h) hS k 0 (mW_at ht) rfl (i_in hi hi0 hi1) hd (fun H1 locs1 hP1 _ hS1 => ?_)
  refine kk h1 (okt (okt (okt h2).2).2).2 h3 H1 locs1 ls ⟨?_, hg.2.1, mupd_in hg.2.2 hv⟩ hS1 hl
  rw [mW_set (h := h) (h' := (h.1, mupd h.2 k i v)) ht rfl (fun j hj => ⟨mupd_o _ _ _ hj, rfl⟩)]
  have e3 : wentF G ((h.1, mupd h.2 k i v).2 k) (mrf (h.1, mupd h.2 k i v) k) (0, n) = .inl (gI G, n, .inl (upd (fun j : Nat => Int32.ofInt (h.2 k (j : Nat))) (Int32.ofInt i).toNatClampNeg (Int32.ofInt v))) := by
    show Sum.inl (gI G, n, Sum.inl (fun j : Nat => Int32.ofInt (mupd h.2 k i v k (j : Nat)))) = _
    rw [mupd_k, arr_upd _ hi hi0]
  rw [e3]
  exact hP1
theorem V_zast (X : mXf G l own nL rt ini cc d c0 s0 lim scr p R s m args meth c) {k n : Nat} {i v : Int} {r : List mVal} (ht : h.1.1[k]? = some (1, n)) (hi0 : 0 ≤ i) (hi1 : i < (n : Int)) (hz : v = 0 ∨ v = 1) (hd : decode cc pc = .ok (.bastore, 1))
    (kk : mV G p l e R s m args below meth c Q nL c0 s0 (pc + 1) lv r (h.1, mupd h.2 k i v)) : mV G p l e R s m args below meth c Q nL c0 s0 pc lv (vi v :: vi i :: vr k :: r) h := by
  intro h1 h2 h3 H locs ls hg hS hl
  obtain ⟨⟨hx, hb, hml, hown, hts⟩, hG, -⟩ := X
  have hv : inR v := (okt h2).1
  have hi : inR i := (okt (okt h2).2).1
  refine va_zast hx hb hG.1 hg.1 (mW_D G h) hS k 1 (mW_at ht) rfl (i_in hi hi0 hi1) hd (fun H1 locs1 hP1 _ hS1 => ?_)
  have en : vp_nar .boolean (Int32.ofInt v) = Int32.ofInt v := by rcases hz with rfl | rfl <;> decide
  rw [en] at hP1
  refine kk h1 (okt (okt (okt h2).2).2).2 h3 H1 locs1 ls ⟨?_, hg.2.1, mupd_in hg.2.2 hv⟩ hS1 hl
  rw [mW_set (h := h) (h' := (h.1, mupd h.2 k i v)) ht rfl (fun j hj => ⟨mupd_o _ _ _ hj, rfl⟩)]
  have e3 : wentF G ((h.1, mupd h.2 k i v).2 k) (mrf (h.1, mupd h.2 k i v) k) (1, n) = .inl (gZ G, n, .inl (upd (fun j : Nat => Int32.ofInt (h.2 k (j : Nat))) (Int32.ofInt i).toNatClampNeg (Int32.ofInt v))) := by
    show Sum.inl (gZ G, n, Sum.inl (fun j : Nat => Int32.ofInt (mupd h.2 k i v k (j : Nat)))) = _
    rw [mupd_k, arr_upd _ hi hi0]
  rw [e3]
  exact hP1
/-- an element of a row of references -/
theorem V_aald (X : mXf G l own nL rt ini cc d c0 s0 lim scr p R s m args meth c) {k n t : Nat} {i : Int} {r : List mVal} (ht : h.1.1[k]? = some (2, n)) (hi0 : 0 ≤ i) (hi1 : i < (n : Int)) (hr : h.1.2.lookup (k, i.toNat) = some t) (hd : decode cc pc = .ok (.aaload, 1))
    (kk : mV G p l e R s m args below meth c Q nL c0 s0 (pc + 1) lv (vr t :: r) h) : mV G p l e R s m args below meth c Q nL c0 s0 pc lv (vi i :: vr k :: r) h := by
  intro h1 h2 h3 H locs ls hg hS hl
  obtain ⟨⟨hx, hb, hml, hown, hts⟩, hG, -⟩ := X
  have hi : inR i := (okt h2).1
  refine va_aldq (C := nR 3) hx hb hG.1 hg.1 k 2 (mW_at ht) rfl (i_in hi hi0 hi1) hd ?_
  show W p l e R s m args below meth c H locs (h.1.1.length - c0) (mtot h.1.1 - s0) Q (F0 m (pc + 1) ls (va_rf ((h.1.2.lookup (k, (Int32.ofInt i).toNatClampNeg)).map (gSz G + ·)) :: r.map (toV G)))
  rw [i_clamp hi, hr]
  exact kk h1 (okc trivial (okt (okt h2).2).2) h3 H locs ls hg hS hl
theorem V_aast (X : mXf G l own nL rt ini cc d c0 s0 lim scr p R s m args meth c) {k n v nv : Nat} {i : Int} {r : List mVal} (ht : h.1.1[k]? = some (2, n)) (hv : h.1.1[v]? = some (6, nv)) (hi0 : 0 ≤ i) (hi1 : i < (n : Int)) (hd : decode cc pc = .ok (.aastore, 1))
    (kk : mV G p l e R s m args below meth c Q nL c0 s0 (pc + 1) lv r ((h.1.1, ((k, i.toNat), v) :: h.1.2), h.2)) : mV G p l e R s m args below meth c Q nL c0 s0 pc lv (vr v :: vi i :: vr k :: r) h := by
  intro h1 h2 h3 H locs ls hg hS hl
  obtain ⟨⟨hx, hb, hml, hown, hts⟩, hG, -⟩ := X
  have hi : inR i := (okt (okt h2).2).1
  refine va_astq (r := (nR 3, nT 3, nN 3)) hx hb hG.1 hg.1 (mW_D G h) hS k 2 v 3 (mW_at ht) rfl (mW_at hv) (cls_at (by decide)) (i_in hi hi0 hi1) hd (fun H1 locs1 hP1 _ hS1 => ?_)
  refine kk h1 (okt (okt (okt h2).2).2).2 h3 H1 locs1 ls ⟨?_, ⟨hg.2.1.1, fun q hq => ?_, hg.2.1.2.2⟩, hg.2.2⟩ hS1 hl
  · rw [mW_set (h := h) (h' := ((h.1.1, ((k, i.toNat), v) :: h.1.2), h.2)) ht rfl (fun j hj => ⟨rfl, by first | (rw [mrf_cons, if_neg hj]; done) | (rw [mrf_cons, if_neg hj]; rfl)⟩)]
    have e3 : wentF G (((h.1.1, ((k, i.toNat), v) :: h.1.2), h.2).2 k) (mrf ((h.1.1, ((k, i.toNat), v) :: h.1.2), h.2) k) (2, n) = .inl (gS G, n, .inr (.inr (.inr (.inr (va_up (fun j : Nat => (mrf h k j).map (gSz G + ·)) (Int32.ofInt i).toNatClampNeg (some (gSz G + v))))))) := by
      rw [mrf_cons, if_pos rfl, i_clamp hi]
      show Sum.inl (gS G, n, Sum.inr (Sum.inr (Sum.inr (Sum.inr (fun j : Nat => ((fun x => if x = i.toNat then some v else mrf h k x) j).map (gSz G + ·)))))) = _
      congr 7
      funext j
      unfold va_up
      by_cases hj : j = i.toNat
      · simp [hj]
      · simp [hj]
    rw [e3]
    exact hP1
  · rcases List.mem_cons.mp hq with rfl | hq
    · exact (List.getElem?_eq_some_iff.mp ht).1
    · exact hg.2.1.2.1 q hq
end
end
section
/-! SOUNDNESS 5: new cells, copies, calls -/
theorem mtot_app (l : List (Nat × Nat)) (q : Nat × Nat) : mtot (l ++ [q]) = mtot l + q.2 := by simp [mtot]
theorem mzero_k (m : mMem) (k : Nat) : mzero m k k = fun _ => 0 := by funext x; simp [mzero]
theorem mzero_o (m : mMem) {k j : Nat} (hj : j ≠ k) : mzero m k j = m j := by funext x; simp [mzero, hj]
theorem mrf_none {h : mHp} (hs : ∀ q ∈ h.1.2, q.1.1 < h.1.1.length) : mrf h h.1.1.length = fun _ => none := by
  funext j
  unfold mrf
  cases hq : h.1.2.lookup (h.1.1.length, j) with
  | none => rfl
  | some t => exact absurd (hs _ (lk_mem hq)) (Nat.lt_irrefl _)
theorem mW_push {G : mG} {h : mHp} (q : Nat × Nat) (hs : ∀ q ∈ h.1.2, q.1.1 < h.1.1.length) : mW G ((h.1.1 ++ [q], h.1.2), mzero h.2 h.1.1.length) = mW G h ++ [(gSz G + h.1.1.length, wentF G (fun _ => 0) (fun _ => none) q)] := by
  refine List.ext_getElem? fun j => ?_
  have hlen : (mW G h).length = h.1.1.length := by simp [mW]
  simp only [mW, List.getElem?_mapIdx]
  rcases Nat.lt_trichotomy j h.1.1.length with hj | hj | hj
  · rw [List.getElem?_append_left hj, List.getElem?_append_left (by simpa [mW] using hj), List.getElem?_mapIdx]
    have e1 : mzero h.2 h.1.1.length j = h.2 j := mzero_o _ (by omega)
    show Option.map (fun q => (gSz G + j, wentF G (mzero h.2 h.1.1.length j) (mrf h j) q)) _ = _
    rw [e1]
  · subst hj
    rw [List.getElem?_append_right (Nat.le_refl _), List.getElem?_append_right (by simp [mW])]
    simp only [Nat.sub_self, List.length_mapIdx]
    show some (gSz G + h.1.1.length, wentF G (mzero h.2 h.1.1.length h.1.1.length) (mrf h h.1.1.length) q) = _
    rw [mzero_k, mrf_none hs]
    rfl
  · rw [List.getElem?_eq_none (by simp; omega), List.getElem?_eq_none (by simp [mW]; omega)]
    rfl
theorem sh_push {sh : mSh} {t n : Nat} (hs : shOK sh) (hn : n ≤ 1000) (ht : ∀ t', t = t' + 3 → n = nN t' ∧ t' < 7) : shOK (sh.1 ++ [(t, n)], sh.2) := by
  refine ⟨fun k t' n' hk => ?_, fun q hq => ?_, fun q hq => ?_⟩
  · rcases Nat.lt_trichotomy k sh.1.length with hj | hj | hj
    · rw [show (sh.1 ++ [(t, n)], sh.2).1[k]? = sh.1[k]? from List.getElem?_append_left hj] at hk
      exact hs.1 k t' n' hk
    · subst hj
      rw [show (sh.1 ++ [(t, n)], sh.2).1[sh.1.length]? = some (t, n) by simp] at hk
      cases hk
      exact ht _ rfl
    · rw [show (sh.1 ++ [(t, n)], sh.2).1[k]? = none from List.getElem?_eq_none (by simp; omega)] at hk
      cases hk
  · have := hs.2.1 q hq
    show q.1.1 < (sh.1 ++ [(t, n)]).length
    simp
    omega
  · rcases List.mem_append.mp hq with hq | hq
    · exact hs.2.2 q hq
    · rw [List.mem_singleton.mp hq]
      exact hn
section
variable {G : mG} {l : Launch} {own nL : Nat} {rt : Option FieldType} {ini : Bool} {cc : ByteArray} {d c0 s0 : Nat} {lim : Nat × Nat} {scr : Nat × (Nat → Int)} {p : Program} {e : Env} {R : Room} {s : State} {m : MethodId} {args : Array Value} {below : List Frame} {meth : Method} {c : Code} {Q : State → Prop} {pc : Nat} {lv : mLV} {st : List mVal} {h : mHp}
/-- a new cell came: its address, and what follows -/
theorem V_born {t n q : Nat} {E : va_E} {r : List mVal} {H1 : Heap} {locs : List Loc} {ls : Array Slot} {pc' : Nat} (X : mXf G l own nL rt ini cc d c0 s0 lim scr p R s m args meth c) (h1 : ∀ q ∈ lv, okV q.2) (h2 : ∀ v ∈ r, okV v) (h3 : (c0 ≤ h.1.1.length ∧ s0 ≤ mtot h.1.1) ∧ h.1.1.length ≤ c0 + R.cells ∧ mtot h.1.1 ≤ s0 + R.slots) (hcap : h.1.1.length + 1 ≤ lim.1 ∧ mtot h.1.1 + n ≤ lim.2) (hn1 : n ≤ 1000) (hE : E = wentF G (fun _ => 0) (fun _ => none) (t, n)) (hsh : shOK h.1) (hin : ∀ k i, inR (h.2 k i)) (ht : ∀ t', t = t' + 3 → n = nN t' ∧ t' < 7)
    (hP1 : va_P (gD G) classes (mW G h ++ [(q, E)]) H1) (hD1 : va_D (gA G) (mW G h ++ [(q, E)])) (hS1 : va_S (gA G) s.heap H1 locs) (hl : lv_has ls nL (tLV G lv))
    (kk : mV G p l e R s m args below meth c Q nL c0 s0 pc' lv (vr h.1.1.length :: r) ((h.1.1 ++ [(t, n)], h.1.2), mzero h.2 h.1.1.length)) : W p l e R s m args below meth c H1 locs (h.1.1.length - c0 + 1) (mtot h.1.1 - s0 + n) Q (F0 m pc' ls (.ref q :: r.map (toV G))) := by
  refine W_sz (fun hsz => ?_)
  have hlen : (mW G h).length = h.1.1.length := by simp [mW]
  have hat : (mW G h ++ [(q, E)])[h.1.1.length]? = some (q, E) := by
    rw [List.getElem?_append_right (by omega), hlen, Nat.sub_self]; rfl
  have hq1 : q < H1.size := (hP1 _ _ hat).lt
  have hq2 : gSz G ≤ q := hD1.2 _ _ hat
  have hq : q = gSz G + h.1.1.length := by
    have hs := X.2.2.1.2
    rcases Nat.lt_or_ge q (gSz G + h.1.1.length) with hlt | hge
    · exfalso
      obtain ⟨x, hx⟩ : ∃ x, h.1.1[q - gSz G]? = some x := ⟨_, List.getElem?_eq_getElem (by omega)⟩
      have hk := mW_at (G := G) hx
      have hk2 : (mW G h ++ [(q, E)])[q - gSz G]? = some (gSz G + (q - gSz G), wentF G (h.2 (q - gSz G)) (mrf h (q - gSz G)) x) := by
        rw [List.getElem?_append_left (by omega)]; exact hk
      have := hD1.1 _ _ _ _ hk2 hat (by show gSz G + (q - gSz G) = q; omega)
      omega
    · omega
  subst hq
  have e1 : (h.1.1 ++ [(t, n)]).length - c0 = h.1.1.length - c0 + 1 := by simp; omega
  have e2 : mtot (h.1.1 ++ [(t, n)]) - s0 = mtot h.1.1 - s0 + n := by rw [mtot_app]; have := h3.1.2; simp only; omega
  have hcp := X.2.2.2.2.2.1
  have hk := kk h1 (okc trivial h2) ⟨⟨by show c0 ≤ (h.1.1 ++ [(t, n)]).length; simp; omega, by show s0 ≤ mtot (h.1.1 ++ [(t, n)]); rw [mtot_app]; omega⟩, by show (h.1.1 ++ [(t, n)]).length ≤ _; have := hcap.1; have := hcp.1; simp; omega, by show mtot (h.1.1 ++ [(t, n)]) ≤ _; rw [mtot_app]; have := hcap.2; have := hcp.2; simp only; omega⟩ H1 locs ls ⟨?_, sh_push hsh hn1 ht, fun k i => ?_⟩ hS1 hl
  · have e1' : ((h.1.1 ++ [(t, n)], h.1.2), mzero h.2 h.1.1.length).1.1.length - c0 = h.1.1.length - c0 + 1 := e1
    have e2' : mtot ((h.1.1 ++ [(t, n)], h.1.2), mzero h.2 h.1.1.length).1.1 - s0 = mtot h.1.1 - s0 + n := e2
    rw [e1', e2'] at hk
    exact hk
  · rw [mW_push _ hsh.2.1, ← hE]
    exact hP1
  · show inR (mzero h.2 h.1.1.length k i)
    unfold mzero
    split
    · exact inR_0
    · exact hin _ _
theorem V_new (X : mXf G l own nL rt ini cc d c0 s0 lim scr p R s m args meth c) {idx a : Nat} (hlk : lkC own idx a = true) (hcap : h.1.1.length + 1 ≤ lim.1 ∧ mtot h.1.1 + nN a ≤ lim.2) (hd : decode cc pc = .ok (.new idx, 3))
    (kk : mV G p l e R s m args below meth c Q nL c0 s0 (pc + 3) lv (vr h.1.1.length :: st) ((h.1.1 ++ [(a + 3, nN a)], h.1.2), mzero h.2 h.1.1.length)) : mV G p l e R s m args below meth c Q nL c0 s0 pc lv st h := by
  intro h1 h2 h3 H locs ls hg hS hl
  obtain ⟨⟨hx, hb, hml, hown, hts⟩, hG, hsz, -, -, hcp, -⟩ := id X
  unfold lkC at hlk
  split at hlk
  · rename_i y pos hq
    have e1 := (eq_of_beq hlk).symm
    subst e1
    have hm := lk_mem hq
    have ha7 : a < 7 := by simpa using List.all_eq_true.mp lCl_b _ hm
    have hin7 : a ∈ [0, 1, 2, 3, 4, 5, 6] := by simp; omega
    have hin9 : a ∈ [0, 1, 2, 3, 4, 5, 6, 7, 8] := by simp; omega
    have hn1 : nN a ≤ 1000 := by
      rcases (show a = 0 ∨ a = 1 ∨ a = 2 ∨ a = 3 ∨ a = 4 ∨ a = 5 ∨ a = 6 by omega) with rfl | rfl | rfl | rfl | rfl | rfl | rfl <;> decide
    have hta : ∀ t', a + 3 = t' + 3 → nN a = nN t' ∧ t' < 7 := by
      intro t' e
      have e2 : a = t' := by omega
      subst e2
      exact ⟨rfl, ha7⟩
    refine va_new (C := nR a) (T := nT a) (N := nN a) (ci := a) (own := nR own) (index := idx) (fs := (List.range (nN a)).map (fvalF G (fun _ => 0) (fun _ => none) a)) hx hb hts (u_in ha7) (nTy a) (fun k hk => (nTy_of ha7 hk).1) hown (hts _ (wAt_in (lCl_w _ hm) rfl)) (hts _ (wAt_in (nIns_w a hin7) rfl)) (hts _ (wAt_in (nIni_w a hin9) rfl)) hG.1 hg.1 (mW_D G h) hS (fun q hq => Nat.le_trans hsz.1 hq) (cls_at ha7) (fun j hj => ?_) (by have := hcap.1; have := hcp.1; omega) (by have := hcap.2; have := hcp.2; omega) hd (fun q H1 hP1 hD1 hS1 => V_born X h1 h2 h3 hcap hn1 rfl hg.2.1 hg.2.2 hta hP1 hD1 hS1 hl kk)
    unfold vp_V
    rw [List.getD_eq_getElem?_getD, List.getElem?_map, List.getElem?_range hj]
    simp only [Option.map_some, Option.getD_some, fvalF]
    cases hr : nRf a j with
    | true =>
      obtain ⟨-, hk⟩ := (nTy_of ha7 hj).2.1 hr
      rcases hk with ⟨x, e⟩ | ⟨x, e⟩ <;> (rw [e]; rfl)
    | false =>
      obtain ⟨-, hk⟩ := (nTy_of ha7 hj).2.2 hr
      rcases hk with ⟨e, -⟩ | ⟨e, -⟩ <;> (rw [e]; rfl)
  · cases hlk
theorem V_newI (X : mXf G l own nL rt ini cc d c0 s0 lim scr p R s m args meth c) {n : Int} {r : List mVal} (hn : 0 ≤ n ∧ n ≤ 1000) (hcap : h.1.1.length + 1 ≤ lim.1 ∧ mtot h.1.1 + n.toNat ≤ lim.2) (hd : decode cc pc = .ok (.newarray .int, 2))
    (kk : mV G p l e R s m args below meth c Q nL c0 s0 (pc + 2) lv (vr h.1.1.length :: r) ((h.1.1 ++ [(0, n.toNat)], h.1.2), mzero h.2 h.1.1.length)) : mV G p l e R s m args below meth c Q nL c0 s0 pc lv (vi n :: r) h := by
  intro h1 h2 h3 H locs ls hg hS hl
  obtain ⟨⟨hx, hb, hml, hown, hts⟩, hG, hsz, -, -, hcp, -⟩ := id X
  have hi : inR n := (okt h2).1
  refine va_newa (ty := .int) (a0 := (n.toNat, .inl fun _ => 0)) (N' := n.toNat) hx hb (hts _ (wAt_in pFix_w.2.2.1 rfl)) rfl hG.1 hg.1 (mW_D G h) hS (fun q hq => Nat.le_trans hsz.1 hq) (fun cA => rfl) (by rw [show (0 : Int32) = Int32.ofInt 0 from rfl, i_lt hi inR_0]; omega) (i_clamp hi) (by show n.toNat * 4 ≤ _; omega) (by have := hcap.1; have := hcp.1; omega) (by have := hcap.2; have := hcp.2; omega) hd (fun q cA H1 hK1 hP1 hD1 hS1 => ?_)
  have e1 : s.vm.findClass ("[" ++ FieldType.int.toString) = some cA := (hK1.2 3 (cA, .int) rfl).2
  have e2 : s.vm.findClass ("[" ++ FieldType.int.toString) = some (gI G) := (hG.1.2 0 (gI G, .int) rfl).2
  have e3 : cA = gI G := Option.some.inj (e1.symm.trans e2)
  subst e3
  exact V_born (t := 0) X h1 (okt h2).2 h3 hcap (by omega) rfl hg.2.1 hg.2.2 (fun t' e => by omega) hP1 hD1 hS1 hl kk
theorem V_newZ (X : mXf G l own nL rt ini cc d c0 s0 lim scr p R s m args meth c) {n : Int} {r : List mVal} (hn : 0 ≤ n ∧ n ≤ 1000) (hcap : h.1.1.length + 1 ≤ lim.1 ∧ mtot h.1.1 + n.toNat ≤ lim.2) (hd : decode cc pc = .ok (.newarray .boolean, 2))
    (kk : mV G p l e R s m args below meth c Q nL c0 s0 (pc + 2) lv (vr h.1.1.length :: r) ((h.1.1 ++ [(1, n.toNat)], h.1.2), mzero h.2 h.1.1.length)) : mV G p l e R s m args below meth c Q nL c0 s0 pc lv (vi n :: r) h := by
  intro h1 h2 h3 H locs ls hg hS hl
  obtain ⟨⟨hx, hb, hml, hown, hts⟩, hG, hsz, -, -, hcp, -⟩ := id X
  have hi : inR n := (okt h2).1
  refine va_newa (ty := .boolean) (a0 := (n.toNat, .inl fun _ => 0)) (N' := n.toNat) hx hb (hts _ (wAt_in pFix_w.2.2.2 rfl)) rfl hG.1 hg.1 (mW_D G h) hS (fun q hq => Nat.le_trans hsz.1 hq) (fun cA => rfl) (by rw [show (0 : Int32) = Int32.ofInt 0 from rfl, i_lt hi inR_0]; omega) (i_clamp hi) (by show n.toNat * 1 ≤ _; omega) (by have := hcap.1; have := hcp.1; omega) (by have := hcap.2; have := hcp.2; omega) hd (fun q cA H1 hK1 hP1 hD1 hS1 => ?_)
  have e1 : s.vm.findClass ("[" ++ FieldType.boolean.toString) = some cA := (hK1.2 3 (cA, .boolean) rfl).2
  have e2 : s.vm.findClass ("[" ++ FieldType.boolean.toString) = some (gZ G) := (hG.1.2 1 (gZ G, .boolean) rfl).2
  have e3 : cA = gZ G := Option.some.inj (e1.symm.trans e2)
  subst e3
  exact V_born (t := 1) X h1 (okt h2).2 h3 hcap (by omega) rfl hg.2.1 hg.2.2 (fun t' e => by omega) hP1 hD1 hS1 hl kk
theorem V_newS (X : mXf G l own nL rt ini cc d c0 s0 lim scr p R s m args meth c) {idx : Nat} {n : Int} {r : List mVal} (hlk : lkC own idx 3 = true) (hn : 0 ≤ n ∧ n ≤ 1000) (hcap : h.1.1.length + 1 ≤ lim.1 ∧ mtot h.1.1 + n.toNat ≤ lim.2) (hd : decode cc pc = .ok (.anewarray idx, 3))
    (kk : mV G p l e R s m args below meth c Q nL c0 s0 (pc + 3) lv (vr h.1.1.length :: r) ((h.1.1 ++ [(2, n.toNat)], h.1.2), mzero h.2 h.1.1.length)) : mV G p l e R s m args below meth c Q nL c0 s0 pc lv (vi n :: r) h := by
  intro h1 h2 h3 H locs ls hg hS hl
  obtain ⟨⟨hx, hb, hml, hown, hts⟩, hG, hsz, -, -, hcp, -⟩ := id X
  have hi : inR n := (okt h2).1
  unfold lkC at hlk
  split at hlk
  · rename_i y pos hq
    have e1 := (eq_of_beq hlk).symm
    subst e1
    have hm := lk_mem hq
    refine va_newq (C := nR 3) (own := nR own) (index := idx) (N' := n.toNat) hx hb hown (hts _ (wAt_in (lCl_w _ hm) rfl)) hG.2.2.1 hG.1 hg.1 (mW_D G h) hS (fun q hq => Nat.le_trans hsz.1 hq) (by rw [show (0 : Int32) = Int32.ofInt 0 from rfl, i_lt hi inR_0]; omega) (i_clamp hi) (by omega) (by have := hcap.1; have := hcp.1; omega) (by have := hcap.2; have := hcp.2; omega) hd (fun q cA H1 hK1 hP1 hD1 hS1 => ?_)
    obtain ⟨_, _, _, _, _, e1⟩ := (hK1.2 3 (cA, .object (nR 3)) rfl).2
    obtain ⟨_, _, _, _, _, e2⟩ := (hG.1.2 2 (gS G, .object (nR 3)) rfl).2
    have e3 : cA = gS G := Option.some.inj (e1.symm.trans e2)
    subst e3
    exact V_born (t := 2) X h1 (okt h2).2 h3 hcap (by omega) rfl hg.2.1 hg.2.2 (fun t' e => by omega) hP1 hD1 hS1 hl kk
  · cases hlk
end
end
section
/-! SOUNDNESS 6: copies, Math, calls -/
theorem good_ws {w : Jvm.Cond} (h : w ∈ mWS) : w ∈ mWS ∧ ((w.onTables && w.keeps) = true ∨ ∃ ty, w = .arrayClass ty) := ⟨h, good_of_word (List.mem_filter.mp h).2⟩
theorem good_mws {y : Nat} (hy : y < 191) : GoodIn mWS (mws y) := by
  intro w hw
  rcases List.mem_cons.mp hw with rfl | hw
  · exact good_ws (wAt_in (mC_of hy rfl) rfl)
  · exact good_ws hw
theorem y_par {y : Nat} (hy : y < 191) : (parseMethodDescriptor (mY y).desc).map (fun d => d.parameters.length) = some (npar y) := by
  have h1 := List.all_eq_true.mp mB_m y (List.mem_range.mpr hy)
  simp only [Bool.and_eq_true, decide_eq_true_eq] at h1
  have hm : nDs_ (mDs y) ∈ nDs := by
    unfold nDs_
    rw [List.getD_eq_getElem?_getD, List.getElem?_eq_getElem h1.2]
    exact List.getElem_mem h1.2
  exact nDs_w _ hm
theorem y_own {y : Nat} (hy : y < 191) : mOw y < 8 ∧ mMx y ≤ 14 := by
  have h1 := List.all_eq_true.mp mB_m y (List.mem_range.mpr hy)
  simp only [Bool.and_eq_true, decide_eq_true_eq] at h1
  exact ⟨h1.1.2, h1.1.1⟩
theorem y_cls {y : Nat} (hy : y < 191) : plainName (mY y).cls = true ∧ (mY y).cls ≠ "java/lang/invoke/MethodHandle" ∧ (mY y).cls ≠ "java/lang/invoke/VarHandle" := by
  have h1 := List.all_eq_true.mp nOw_w (mOw y) (List.mem_range.mpr (by have := (y_own hy).1; omega))
  simp only [Bool.and_eq_true, Bool.not_eq_true', beq_eq_false_iff_ne] at h1
  exact ⟨h1.1.1, h1.1.2, h1.2⟩
theorem cpy_eq (m : mMem) {sr ds : Nat} {sp dp n : Int} (h1 : inR sp) (h2 : inR dp) (h3 : inR n) (p1 : 0 ≤ sp) (p2 : 0 ≤ dp) (p3 : 0 ≤ n) : (fun j : Nat => Int32.ofInt (mcpy m sr sp ds dp n ds (j : Nat))) = va_cpy (fun j : Nat => Int32.ofInt (m sr (j : Nat))) (fun j : Nat => Int32.ofInt (m ds (j : Nat))) (Int32.ofInt sp).toNatClampNeg (Int32.ofInt dp).toNatClampNeg (Int32.ofInt n).toNatClampNeg := by
  funext j
  rw [i_clamp h1, i_clamp h2, i_clamp h3]
  unfold mcpy va_cpy
  by_cases hj : dp.toNat ≤ j ∧ j < dp.toNat + n.toNat
  · rw [if_pos hj, if_pos ⟨rfl, by omega, by omega⟩]
    have : sp + ((j : Int) - dp) = ((sp.toNat + (j - dp.toNat) : Nat) : Int) := by omega
    rw [this]
  · rw [if_neg hj, if_neg (by omega)]
theorem take_split {st : List mVal} {n k : Nat} (hb : n + 1 ≤ st.length) (hk : (st.drop n).head? = some (vr k)) : st = st.take n ++ vr k :: st.drop (n + 1) ∧ (st.take (n + 1)).reverse = vr k :: (st.take n).reverse := by
  have h1 : st.drop n = vr k :: st.drop (n + 1) := by
    cases hd : st.drop n with
    | nil => rw [hd] at hk; cases hk
    | cons a t =>
      rw [hd] at hk
      cases hk
      have : st.drop (n + 1) = t := by
        rw [← List.drop_drop (i := 1) (j := n)] <;> first | (rw [hd]; rfl) | skip
      rw [this]
  have h2 : st = st.take n ++ vr k :: st.drop (n + 1) := by rw [← h1, List.take_append_drop]
  refine ⟨h2, ?_⟩
  have h3 : st.take (n + 1) = st.take n ++ [vr k] := by
    have h4 : st[n]? = some (vr k) := by rw [← List.head?_drop]; exact hk
    rw [List.take_succ, h4]
    rfl
  rw [h3, List.reverse_append]
  rfl
section
variable {G : mG} {l : Launch} {own nL : Nat} {rt : Option FieldType} {ini : Bool} {cc : ByteArray} {d c0 s0 : Nat} {lim : Nat × Nat} {scr : Nat × (Nat → Int)} {p : Program} {e : Env} {R : Room} {s : State} {m : MethodId} {args : Array Value} {below : List Frame} {meth : Method} {c : Code} {Q : State → Prop} {pc : Nat} {lv : mLV} {st : List mVal} {h : mHp}
theorem V_copy (X : mXf G l own nL rt ini cc d c0 s0 lim scr p R s m args meth c) {idx ns nd sr ds : Nat} {sp dp n : Int} {r : List mVal} (hlk : lkS own idx 3 = true) (hs : h.1.1[sr]? = some (0, ns)) (hds : h.1.1[ds]? = some (0, nd)) (q : 0 ≤ n ∧ 0 ≤ sp ∧ 0 ≤ dp ∧ sp + n ≤ (ns : Int) ∧ dp + n ≤ (nd : Int)) (hr8 : (r.map mcat).sum ≤ 8) (hd : decode cc pc = .ok (.invokestatic idx, 3))
    (kk : mV G p l e R s m args below meth c Q nL c0 s0 (pc + 3) lv r (h.1, mcpy h.2 sr sp ds dp n)) : mV G p l e R s m args below meth c Q nL c0 s0 pc lv (vi n :: vi dp :: vr ds :: vi sp :: vr sr :: r) h := by
  intro h1 h2 h3 H locs ls hg hS hl
  obtain ⟨⟨hx, hb, hml, hown, hts⟩, hG, hsz, -, hrm, -⟩ := id X
  have hn : inR n := (okt h2).1
  have hdp : inR dp := (okt (okt h2).2).1
  have hsp : inR sp := (okt (okt (okt (okt h2).2).2).2).1
  have hrr := (okt (okt (okt (okt (okt h2).2).2).2).2).2
  unfold lkS at hlk
  split at hlk
  · rename_i y pos hq
    have e1 := (eq_of_beq hlk).symm
    subst e1
    have hm := lk_mem hq
    have hz : ∀ z : Int, inR z → 0 ≤ z → ¬ Int32.ofInt z < 0 := fun z hz h0 => by rw [show (0 : Int32) = Int32.ofInt 0 from rfl, i_lt hz inR_0]; omega
    have hnf : nativeFrameWords "java/lang/System" "arraycopy" 5 ≤ 14 := by decide
    refine va_copyi (ty := .int) (own := nR own) (index := idx) hx hb (by rw [hml, hl.1]) hown (hts _ (wAt_in (lSp_w _ hm) rfl)) (hts _ (wAt_in pFix_w.1.2.2.2.1 rfl)) (hts _ (wAt_in pFix_w.1.2.2.1 rfl)) (hts _ (wAt_in pFix_w.1.2.2.2.2.1 rfl)) hG.1 hg.1 (mW_D G h) hS sr ds 0 0 (mW_at hs) (mW_at hds) rfl rfl rfl (hz sp hsp q.2.1) (hz dp hdp q.2.2.1) (hz n hn q.1) (by rw [i_clamp hsp, i_clamp hn]; omega) (by rw [i_clamp hdp, i_clamp hn]; omega) (fun _ _ => rfl) (by omega) (by rw [cat_sum]; omega) hd (fun H1 locs1 hP1 _ hS1 => ?_)
    refine kk h1 hrr h3 H1 locs1 ls ⟨?_, hg.2.1, fun k i => ?_⟩ hS1 hl
    · rw [mW_set (h := h) (h' := (h.1, mcpy h.2 sr sp ds dp n)) hds rfl (fun j hj => ⟨by funext x; simp [mcpy, hj], rfl⟩)]
      have e3 : wentF G ((h.1, mcpy h.2 sr sp ds dp n).2 ds) (mrf (h.1, mcpy h.2 sr sp ds dp n) ds) (0, nd) = .inl (gI G, nd, .inl (va_cpy (fun j : Nat => Int32.ofInt (h.2 sr (j : Nat))) (fun j : Nat => Int32.ofInt (h.2 ds (j : Nat))) (Int32.ofInt sp).toNatClampNeg (Int32.ofInt dp).toNatClampNeg (Int32.ofInt n).toNatClampNeg)) := by
        show Sum.inl (gI G, nd, Sum.inl (fun j : Nat => Int32.ofInt (mcpy h.2 sr sp ds dp n ds (j : Nat)))) = _
        rw [cpy_eq h.2 hsp hdp hn q.2.1 q.2.2.1 q.1]
      rw [e3]
      exact hP1
    · show inR (mcpy h.2 sr sp ds dp n k i)
      unfold mcpy
      split <;> exact hg.2.2 _ _
  · cases hlk
theorem V_min (X : mXf G l own nL rt ini cc d c0 s0 lim scr p R s m args meth c) {idx : Nat} {x y : Int} {r : List mVal} (hlk : lkS own idx 4 = true) (hr8 : (r.map mcat).sum ≤ 8) (hd : decode cc pc = .ok (.invokestatic idx, 3))
    (kk : mV G p l e R s m args below meth c Q nL c0 s0 (pc + 3) lv (vi (if x ≤ y then x else y) :: r) h) : mV G p l e R s m args below meth c Q nL c0 s0 pc lv (vi y :: vi x :: r) h := by
  intro h1 h2 h3 H locs ls hg hS hl
  obtain ⟨⟨hx, hb, hml, hown, hts⟩, hG, hsz, -, hrm, hcp, -⟩ := id X
  have hy : inR y := (okt h2).1
  have hxx : inR x := (okt (okt h2).2).1
  unfold lkS at hlk
  split at hlk
  · rename_i y' pos hq
    have e1 := (eq_of_beq hlk).symm
    subst e1
    have hm := lk_mem hq
    refine va_mmin (own := nR own) (index := idx) hx hb (by rw [hml, hl.1]) hown (hts _ (wAt_in (lSp_w _ hm) rfl)) (hts _ (wAt_in pFix_w.2.1.1 rfl)) (hts _ (wAt_in pFix_w.1.2.2.2.2.2 rfl)) (hts _ (wAt_in pFix_w.2.1.2.1 rfl)) (by omega) (by rw [cat_sum]; omega) (by have := h3.2.1; omega) (by have := h3.2.2; omega) hd ?_
    have hk := kk h1 (okc (by show inR _; split <;> assumption) (okt (okt h2).2).2) h3 H locs ls hg hS hl
    have e2 : (Int32.ofInt (if x ≤ y then x else y)) = (if Int32.ofInt y < Int32.ofInt x then Int32.ofInt y else Int32.ofInt x) := by
      by_cases hxy : x ≤ y
      · rw [if_pos hxy, if_neg (by rw [i_lt hy hxx]; omega)]
      · rw [if_neg hxy, if_pos (by rw [i_lt hy hxx]; omega)]
    have hk' : W p l e R s m args below meth c H locs (h.1.1.length - c0) (mtot h.1.1 - s0) Q (F0 m (pc + 3) ls (.int (Int32.ofInt (if x ≤ y then x else y)) :: r.map (toV G))) := hk
    rw [e2] at hk'
    exact hk'
  · cases hlk
theorem V_max (X : mXf G l own nL rt ini cc d c0 s0 lim scr p R s m args meth c) {idx : Nat} {x y : Int} {r : List mVal} (hlk : lkS own idx 5 = true) (hr8 : (r.map mcat).sum ≤ 8) (hd : decode cc pc = .ok (.invokestatic idx, 3))
    (kk : mV G p l e R s m args below meth c Q nL c0 s0 (pc + 3) lv (vi (if x ≤ y then y else x) :: r) h) : mV G p l e R s m args below meth c Q nL c0 s0 pc lv (vi y :: vi x :: r) h := by
  intro h1 h2 h3 H locs ls hg hS hl
  obtain ⟨⟨hx, hb, hml, hown, hts⟩, hG, hsz, -, hrm, hcp, -⟩ := id X
  have hy : inR y := (okt h2).1
  have hxx : inR x := (okt (okt h2).2).1
  unfold lkS at hlk
  split at hlk
  · rename_i y' pos hq
    have e1 := (eq_of_beq hlk).symm
    subst e1
    have hm := lk_mem hq
    refine va_mmax (own := nR own) (index := idx) hx hb (by rw [hml, hl.1]) hown (hts _ (wAt_in (lSp_w _ hm) rfl)) (hts _ (wAt_in pFix_w.2.1.2.2.1 rfl)) (hts _ (wAt_in pFix_w.1.2.2.2.2.2 rfl)) (hts _ (wAt_in pFix_w.2.1.2.2.2.1 rfl)) (by omega) (by rw [cat_sum]; omega) (by have := h3.2.1; omega) (by have := h3.2.2; omega) hd ?_
    have hk := kk h1 (okc (by show inR _; split <;> assumption) (okt (okt h2).2).2) h3 H locs ls hg hS hl
    have e2 : (Int32.ofInt (if x ≤ y then y else x)) = (if Int32.ofInt x < Int32.ofInt y then Int32.ofInt y else Int32.ofInt x) := by
      by_cases hxy : x < y
      · rw [if_pos (by omega), if_pos (by rw [i_lt hxx hy]; omega)]
      · rw [if_neg (c := Int32.ofInt x < Int32.ofInt y) (by rw [i_lt hxx hy]; omega)]
        split
        · have : x = y := by omega
          rw [this]
        · rfl
    have hk' : W p l e R s m args below meth c H locs (h.1.1.length - c0) (mtot h.1.1 - s0) Q (F0 m (pc + 3) ls (.int (Int32.ofInt (if x ≤ y then y else x)) :: r.map (toV G))) := hk
    rw [e2] at hk'
    exact hk'
  · cases hlk
theorem V_maxL (X : mXf G l own nL rt ini cc d c0 s0 lim scr p R s m args meth c) {idx : Nat} {x y : Int} {r : List mVal} (hlk : lkS own idx 6 = true) (hr8 : (r.map mcat).sum ≤ 8) (hd : decode cc pc = .ok (.invokestatic idx, 3))
    (kk : mV G p l e R s m args below meth c Q nL c0 s0 (pc + 3) lv (vl (if x ≤ y then y else x) :: r) h) : mV G p l e R s m args below meth c Q nL c0 s0 pc lv (vl y :: vl x :: r) h := by
  intro h1 h2 h3 H locs ls hg hS hl
  obtain ⟨⟨hx, hb, hml, hown, hts⟩, hG, hsz, -, hrm, hcp, -⟩ := id X
  have hy : inL y := (okt h2).1
  have hxx : inL x := (okt (okt h2).2).1
  unfold lkS at hlk
  split at hlk
  · rename_i y' pos hq
    have e1 := (eq_of_beq hlk).symm
    subst e1
    have hm := lk_mem hq
    refine va_mmax_long (own := nR own) (index := idx) hx hb (by rw [hml, hl.1]) hown (hts _ (wAt_in (lSp_w _ hm) rfl)) (hts _ (wAt_in pFix_w.2.1.2.2.2.2.1 rfl)) (hts _ (wAt_in pFix_w.1.2.2.2.2.2 rfl)) (hts _ (wAt_in pFix_w.2.1.2.2.2.2.2 rfl)) (by omega) (by rw [cat_sum]; omega) (by have := h3.2.1; omega) (by have := h3.2.2; omega) hd ?_
    have hk := kk h1 (okc (by show inL _; split <;> assumption) (okt (okt h2).2).2) h3 H locs ls hg hS hl
    have e2 : (Int64.ofInt (if x ≤ y then y else x)) = (if Int64.ofInt y < Int64.ofInt x then Int64.ofInt x else Int64.ofInt y) := by
      by_cases hxy : x ≤ y
      · rw [if_pos hxy, if_neg (by rw [l_lt hy hxx]; omega)]
      · rw [if_neg hxy, if_pos (by rw [l_lt hy hxx]; omega)]
    have hk' : W p l e R s m args below meth c H locs (h.1.1.length - c0) (mtot h.1.1 - s0) Q (F0 m (pc + 3) ls (.long (Int64.ofInt (if x ≤ y then y else x)) :: r.map (toV G))) := hk
    rw [e2] at hk'
    exact hk'
  · cases hlk
theorem pre_blind {G : mG} {h : mHp} {av : List Value} : FrameBlind (va_Pc av (mPre G h)) := fun _ U g mk q => ⟨q.1, gW_call g mk _ q.2.1, q.2.2.1, q.2.2.2⟩
/-- a call of an object's method; the shape stays -/
theorem V_callV (X : mXf G l own nL rt ini cc d c0 s0 lim scr p R s m args meth c) {idx y k nk : Nat} {r : Option mVal × mHp} (hM : mMet G l d y (st.take (npar y + 1)).reverse h r) (hr : r.2.1 = h.1) (hlk : lkM own idx y = true) (hsc : mStc y = false) (hni : mInitL.contains y = false) (hy : y < 191) (hb : npar y + 1 ≤ st.length) (hk : (st.drop (npar y)).head? = some (vr k)) (ht : h.1.1[k]? = some (mOw y + 3, nk)) (hr8 : ((st.drop (npar y + 1)).map mcat).sum ≤ 8) (hd : decode cc pc = .ok (.invokevirtual idx, 3))
    (kk : mV G p l e R s m args below meth c Q nL c0 s0 (pc + 3) lv (r.1.toList ++ st.drop (npar y + 1)) r.2) : mV G p l e R s m args below meth c Q nL c0 s0 pc lv st h := by
  intro h1 h2 h3 H locs ls hg hS hl
  obtain ⟨⟨hx, hbc, hml, hown, hts⟩, hG, hsz, -, hrm, hcp, -⟩ := id X
  obtain ⟨e1, e2⟩ := take_split hb hk
  unfold lkM at hlk
  split at hlk
  · rename_i y' pos hq
    have e3 := (eq_of_beq hlk).symm
    subst e3
    have hm := lk_mem hq
    have hok : ∀ v ∈ (st.take (npar y + 1)).reverse, okV v := fun v hv => h2 v (List.mem_of_mem_take (List.mem_reverse.mp hv))
    have hM0 := hM 0 0 (by rw [hr]; rfl) (by rw [hr]; rfl) hok
    rw [e2] at hM0
    have ho7 : mOw y < 7 := (hg.2.1.1 k _ nk ht).2
    have hlen : ((st.take (npar y)).reverse.map (toV G)).length = npar y := by
      rw [List.length_map, List.length_reverse, List.length_take]; omega
    refine W_sz (fun hsize => ?_)
    have hgood : GoodIn mWS (wsV (nR own) idx (nR (mOw y)) (mY y) (mws y)) := by
      intro w hw
      rcases List.mem_append.mp hw with hw | hw
      · simp only [List.mem_cons, List.not_mem_nil, or_false] at hw
        rcases hw with rfl | rfl | rfl | rfl
        · exact good_ws (wAt_in (lMl_w _ hm) rfl)
        · exact good_ws (wAt_in (mI_of hy (by rw [hsc]; rfl)) rfl)
        · exact good_ws (wAt_in (mV_of hy (by rw [hsc, hni]; rfl)) rfl)
        · exact good_ws (wAt_in (nIni_w (mOw y) (by simp; omega)) rfl)
      · exact good_mws hy w hw
    have hrun := va_runV (R := R) (H := H) (locs := locs) (cells := h.1.1.length - c0) (slots := mtot h.1.1 - s0) (g := F0 m pc ls (st.map (toV G))) (As := (st.take (npar y)).reverse.map (toV G)) (rest := (st.drop (npar y + 1)).map (toV G)) (b := gSz G + k) (C := nR (mOw y)) (e := e) (below := below) (meth := meth) ⟨hx, hbc, hml, hown, hts⟩ hM0
      (cwV (npar y) hts hgood rfl rfl rfl ⟨rfl, (y_cls hy).2.1, (y_cls hy).2.2, y_par hy⟩ ⟨by show d + 1 ≤ R.frames; exact hrm.1, by have := (y_own hy).2; show 8 + (mMx y + 11) + 33 * d ≤ R.locals; omega⟩)
      ⟨pre_blind, va_recv hG.1 hg.1 (cls_at ho7) (mW_at ht), fun U hU hWm => ⟨rfl, gW_warm hWm (fun q hq1 hq2 => by rw [hU]; exact hS.2.1 q hq1 hq2) hG, by rw [hU]; exact hg, by rw [hU]; exact Nat.le_trans hsz.1 hS.1, by rw [hU]; have := hsz.2; omega⟩⟩
      rfl hlen hl.1 (by show st.map (toV G) = _; rw [← List.map_reverse, List.reverse_reverse]; conv => lhs; rw [e1]
                        rw [List.map_append, List.map_cons]; rfl)
      (by show 2 * 0 + _ ≤ 8; rw [cat_sum]; omega) hd ⟨by have := h3.2.1; omega, by have := h3.2.2; omega⟩
    refine W_call (r := r) hrun hS (fun hok2 H1 locs1 hg1 hS1 => ?_)
    have hk2 := kk h1 (fun v hv => by
      rcases List.mem_append.mp hv with hv | hv
      · exact hok2 v hv
      · exact h2 v (List.mem_of_mem_drop hv)) (by rw [hr]; exact h3) H1 locs1 ls hg1 hS1 hl
    rw [hr] at hk2
    have e4 : (r.1.toList ++ st.drop (npar y + 1)).map (toV G) = (r.1.map (toV G)).toList ++ (st.drop (npar y + 1)).map (toV G) := by
      rw [List.map_append]; congr 1; cases r.1 <;> rfl
    rw [e4] at hk2
    exact hk2
  · cases hlk
theorem V_callS (X : mXf G l own nL rt ini cc d c0 s0 lim scr p R s m args meth c) {idx y : Nat} {r : Option mVal × mHp} (hM : mMet G l d y (st.take (npar y)).reverse h r) (hr : r.2.1 = h.1) (hlk : lkM own idx y = true) (hsc : mStc y = true) (hy : y < 191) (hb : npar y ≤ st.length) (hr8 : ((st.drop (npar y)).map mcat).sum ≤ 8) (hd : decode cc pc = .ok (.invokestatic idx, 3))
    (kk : mV G p l e R s m args below meth c Q nL c0 s0 (pc + 3) lv (r.1.toList ++ st.drop (npar y)) r.2) : mV G p l e R s m args below meth c Q nL c0 s0 pc lv st h := by
  intro h1 h2 h3 H locs ls hg hS hl
  obtain ⟨⟨hx, hbc, hml, hown, hts⟩, hG, hsz, -, hrm, hcp, -⟩ := id X
  unfold lkM at hlk
  split at hlk
  · rename_i y' pos hq
    have e3 := (eq_of_beq hlk).symm
    subst e3
    have hm := lk_mem hq
    have hok : ∀ v ∈ (st.take (npar y)).reverse, okV v := fun v hv => h2 v (List.mem_of_mem_take (List.mem_reverse.mp hv))
    have hM0 := hM 0 0 (by rw [hr]; rfl) (by rw [hr]; rfl) hok
    have hlen : ((st.take (npar y)).reverse.map (toV G)).length = npar y := by
      rw [List.length_map, List.length_reverse, List.length_take]; omega
    refine W_sz (fun hsize => ?_)
    have hini : (Cond.initialized (mY y).cls).before args s = true := hts _ (wAt_in (nIni_w (mOw y) (by have := (y_own hy).1; simp; omega)) rfl)
    have hcb : CallB R s args (nR own) idx (mY y) (mCo y) (mMx y) (mRt y) (mws y) (mroom d 0 0) 0 0 (npar y) := callB_of (npar y) hts (good_mws hy) rfl rfl rfl hini (hts _ (wAt_in (lMl_w _ hm) rfl)) ⟨(y_cls hy).2.1, (y_cls hy).2.2, y_par hy⟩ ⟨by show d + 1 ≤ R.frames; exact hrm.1, by have := (y_own hy).2; show 8 + (mMx y + 11) + 33 * d ≤ R.locals; omega⟩
    have hrun := va_runS (R := R) (H := H) (locs := locs) (cells := h.1.1.length - c0) (slots := mtot h.1.1 - s0) (g := F0 m pc ls (st.map (toV G))) (As := (st.take (npar y)).reverse.map (toV G)) (rest := (st.drop (npar y)).map (toV G)) (e := e) (below := below) (meth := meth) ⟨hx, hbc, hml, hown, hts⟩ hM0
      ⟨hcb, hts _ (wAt_in (mS_of hy hsc) rfl)⟩
      ⟨pre_blind, fun U hU hWm => ⟨rfl, gW_warm hWm (fun q hq1 hq2 => by rw [hU]; exact hS.2.1 q hq1 hq2) hG, by rw [hU]; exact hg, by rw [hU]; exact Nat.le_trans hsz.1 hS.1, by rw [hU]; have := hsz.2; omega⟩⟩
      rfl hlen hl.1 (by show st.map (toV G) = _; rw [← List.map_reverse, List.reverse_reverse, ← List.map_append, List.take_append_drop])
      (by show 2 * 0 + _ ≤ 8; rw [cat_sum]; omega) hd ⟨by have := h3.2.1; omega, by have := h3.2.2; omega⟩
    refine W_call (r := r) hrun hS (fun hok2 H1 locs1 hg1 hS1 => ?_)
    have hk2 := kk h1 (fun v hv => by
      rcases List.mem_append.mp hv with hv | hv
      · exact hok2 v hv
      · exact h2 v (List.mem_of_mem_drop hv)) (by rw [hr]; exact h3) H1 locs1 ls hg1 hS1 hl
    rw [hr] at hk2
    have e4 : (r.1.toList ++ st.drop (npar y)).map (toV G) = (r.1.map (toV G)).toList ++ (st.drop (npar y)).map (toV G) := by
      rw [List.map_append]; congr 1; cases r.1 <;> rfl
    rw [e4] at hk2
    exact hk2
  · cases hlk
end
end
