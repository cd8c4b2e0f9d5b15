/-! SOUNDNESS 2: a frame of the machine that follows the rows -/
def ilen (i : Instr) : Nat := match i with
  | .bipush _ => 2
  | .sipush _ => 3
  | .ldc _ => 2
  | .ldc2_w _ => 3
  | .iload _ => 2
  | .aload _ => 2
  | .lload _ => 2
  | .istore _ => 2
  | .astore _ => 2
  | .lstore _ => 2
  | .iinc _ _ => 3
  | .goto _ => 3
  | .ifCond _ _ => 3
  | .if_icmp _ _ => 3
  | .getfield _ => 3
  | .putfield _ => 3
  | .new _ => 3
  | .newarray _ => 2
  | .anewarray _ => 3
  | .invokespecial _ => 3
  | .invokevirtual _ => 3
  | .invokestatic _ => 3
  | _ => 1
def lenOK (i : Instr) (len : Nat) : Bool := match i with
  | .tableswitch .. => true
  | _ => len == ilen i
def lkF (own idx a b : Nat) : Bool := match lFl.lookup (own, idx) with
  | some (ci, k, _) => ci == a && k == b
  | none => false
def lkM (own idx a : Nat) : Bool := match lMl.lookup (own, idx) with
  | some (y, _) => y == a
  | none => false
def lkN (own idx a : Nat) : Bool := match lNs.lookup (own, idx) with
  | some y => y == a
  | none => false
def lkS (own idx a : Nat) : Bool := match lSp.lookup (own, idx) with
  | some (y, _) => y == a
  | none => false
def lkC (own idx a : Nat) : Bool := match lCl.lookup (own, idx) with
  | some (y, _) => y == a
  | none => false
def lkI (own idx : Nat) (z : Int) : Bool := match lCi.lookup (own, idx) with
  | some (y, _) => y == z
  | none => false
def lkL (own idx : Nat) (z : Int) : Bool := match lCL.lookup (own, idx) with
  | some (y, _) => y == z
  | none => false
/-- how deep a method's calls go on the machine, where it reads literals -/
def nNeed (y : Nat) : Nat := bif y == 37 then 5 else bif y == 36 then 6 else bif y == 31 then 7 else bif y == 47 then 8 else 0
def xOK (own nL : Nat) (rt : Option FieldType) (ini : Bool) (nd pc : Nat) (ins : Instr) (a b : Nat) (z : Int) (ts : List Nat) : Bool := match ins with
  | .iconst n => decide (-128 ≤ n) && decide (n < 128)
  | .bipush n => decide (-128 ≤ n) && decide (n < 128)
  | .sipush n => decide (-32768 ≤ n) && decide (n < 32768)
  | .ldc idx => bif b == 0 then lkI own idx z else (own == 4 && Nat.blt a 6 && lSt.getD a 0 == idx)
  | .ldc2_w idx => lkL own idx z
  | .istore_n i => Nat.blt i.val nL
  | .istore i => Nat.blt i nL
  | .astore_n i => Nat.blt i.val nL
  | .astore i => Nat.blt i nL
  | .lstore_n i => Nat.blt (i.val + 1) nL
  | .lstore i => Nat.blt (i + 1) nL
  | .iinc i n => Nat.blt i nL && decide (-128 ≤ n) && decide (n < 128)
  | .goto off => decide ((pc : Int) + off = (a : Nat))
  | .ifCond _ off => decide ((pc : Int) + off = (a : Nat))
  | .if_icmp _ off => decide ((pc : Int) + off = (a : Nat))
  | .tableswitch d lo hi offs => decide (lo = 0) && decide (hi = (ts.length : Int) - 1) && decide ((pc : Int) + d = (a : Nat)) && decide (offs.toList.map (fun o => (pc : Int) + o) = ts.map (fun t => ((t : Nat) : Int))) && Nat.blt ts.length 100
  | .getfield idx => lkF own idx a b && ((z == 1) == nRf a b)
  | .putfield idx => lkF own idx a b && ((z == 1) == nRf a b) && (z == 1 || ((z == 2) == ((nFk a b).2.1 == "Z"))) && (!(z == 1) || (ini && own == a))
  | .new idx => lkC own idx a && b == nN a
  | .anewarray idx => lkC own idx 3
  | .newarray t => (a == 0 && decide (t = .int)) || (a == 1 && decide (t = .boolean))
  | .invokespecial idx => bif a == 9000 then (lOb.lookup (own, idx)).isSome else ((lkM own idx a || lkN own idx a) && mInitL.contains a && !mStc a && b == npar a + 1 && Nat.blt a 191 && decide (mRt a = none) && nNeed a == 0)
  | .invokevirtual idx => bif decide (z < 3) then (lkM own idx a && !mStc a && !(mInitL.contains a) && b == npar a + 1 && ts == [mOw a + 3] && Nat.blt a 191 && (nNeed a == 0 || Nat.blt (nNeed a) nd)) else bif z == 5 then (lkS own idx 15 && b == 1 && Nat.ble 5 nd) else (lkS own idx 16 && b == 2 && Nat.ble 5 nd)
  | .invokestatic idx => bif decide (z < 3) then (lkM own idx a && mStc a && b == npar a && Nat.blt a 191 && (nNeed a == 0 || Nat.blt (nNeed a) nd)) else (lkS own idx z.toNat && (b == bif z == 3 then 5 else 2))
  | .ireturn => bif z == 1 then decide (rt = some .boolean) else decide (rt = some .int)
  | .lreturn => decide (rt = some .long)
  | .return_ => decide (rt = none)
  | _ => true
def bOK (own : Nat) (cc : ByteArray) (nL : Nat) (rt : Option FieldType) (ini : Bool) (nd : Nat) : Nat → List mRow → Bool
  | _, [] => true
  | pc, (ins, len, a, b, z, ts) :: rows => decide (decode cc pc = .ok (ins, len)) && lenOK ins len && xOK own nL rt ini nd pc ins a b z ts && bOK own cc nL rt ini nd (pc + len) rows
def tLV (G : mG) (lv : mLV) : List (Nat × Value) := lv.map fun q => (q.1, toV G q.2)
theorem tLV_lset (G : mG) (i : Nat) (v : mVal) (lv : mLV) : (i, toV G v) :: (tLV G lv).filter (fun q => !(q.1 == i) && !(q.1 + 1 == i && q.2.category == 2)) = tLV G (lset i v lv) := by
  unfold lset tLV
  rw [List.map_cons, List.filter_map]
  congr 3
  funext q
  simp [toV_cat]
theorem tLV_lset2 (G : mG) (i : Nat) (v : mVal) (lv : mLV) : (i, toV G v) :: (tLV G lv).filter (fun q => !(q.1 == i) && (!(q.1 == i + 1) && !(q.1 + 1 == i && q.2.category == 2))) = tLV G (lset2 i v lv) := by
  unfold lset2 tLV
  rw [List.map_cons, List.filter_map]
  congr 3
  funext q
  simp [toV_cat]
theorem lset_ok {i : Nat} {v : mVal} {lv : mLV} (hv : okV v) (h : ∀ q ∈ lv, okV q.2) : ∀ q ∈ lset i v lv, okV q.2 := by
  intro q hq
  rcases List.mem_cons.mp hq with rfl | hq
  · exact hv
  · exact h q (List.mem_filter.mp hq).1
theorem lset2_ok {i : Nat} {v : mVal} {lv : mLV} (hv : okV v) (h : ∀ q ∈ lv, okV q.2) : ∀ q ∈ lset2 i v lv, okV q.2 := by
  intro q hq
  rcases List.mem_cons.mp hq with rfl | hq
  · exact hv
  · exact h q (List.mem_filter.mp hq).1
theorem lk_mem {α β : Type} [BEq α] [LawfulBEq α] {l : List (α × β)} {k : α} {v : β} (h : l.lookup k = some v) : (k, v) ∈ l := by
  induction l with
  | nil => simp at h
  | cons q l ih =>
    obtain ⟨a, b⟩ := q
    rw [List.lookup_cons] at h
    cases hk : (k == a) with
    | true =>
      rw [hk] at h
      cases h
      rw [eq_of_beq hk]
      exact List.mem_cons_self
    | false =>
      rw [hk] at h
      exact List.mem_cons_of_mem _ (ih h)
theorem lpick_sub (lb : List (Nat × List Nat)) (t : Nat) (lv : mLV) : ∀ q ∈ lpick lb t lv, q ∈ lv := by
  intro q hq
  obtain ⟨i, -, hi⟩ := List.mem_filterMap.mp hq
  cases h : lv.lookup i with
  | none => rw [h] at hi; cases hi
  | some v =>
    rw [h] at hi
    cases hi
    exact lk_mem h
theorem lv_tsub {G : mG} {ls : Array Slot} {nL : Nat} {lv lv' : mLV} (h : lv_has ls nL (tLV G lv)) (hs : ∀ q ∈ lv', q ∈ lv) : lv_has ls nL (tLV G lv') := by
  refine ⟨h.1, h.2.1, fun q hq => ?_⟩
  obtain ⟨x, hx, rfl⟩ := List.mem_map.mp hq
  exact h.2.2 _ (List.mem_map.mpr ⟨x, hs x hx, rfl⟩)
theorem lgetI_e {lv : mLV} {i : Nat} {k : Int → Prop} (h : lgetI lv i k) : ∃ v, (i, vi v) ∈ lv ∧ k v := by
  unfold lgetI at h
  split at h
  · exact ⟨_, lk_mem (by assumption), h⟩
  · exact h.elim
theorem lgetL_e {lv : mLV} {i : Nat} {k : Int → Prop} (h : lgetL lv i k) : ∃ v, (i, vl v) ∈ lv ∧ k v := by
  unfold lgetL at h
  split at h
  · exact ⟨_, lk_mem (by assumption), h⟩
  · exact h.elim
theorem lgetA_e {lv : mLV} {i : Nat} {k : Nat ⊕ Nat → Prop} (h : lgetA lv i k) : ∃ v, (i, .inr (.inr v)) ∈ lv ∧ k v := by
  unfold lgetA at h
  split at h
  · exact ⟨_, lk_mem (by assumption), h⟩
  · exact h.elim
theorem mI_e {st : List mVal} {k : Int → List mVal → Prop} (h : mI st k) : ∃ x r, st = vi x :: r ∧ k x r := by
  unfold mI at h
  split at h
  · exact ⟨_, _, rfl, h⟩
  · exact h.elim
theorem mL_e {st : List mVal} {k : Int → List mVal → Prop} (h : mL st k) : ∃ x r, st = vl x :: r ∧ k x r := by
  unfold mL at h
  split at h
  · exact ⟨_, _, rfl, h⟩
  · exact h.elim
theorem mR_e {st : List mVal} {k : Nat → List mVal → Prop} (h : mR st k) : ∃ x r, st = vr x :: r ∧ k x r := by
  unfold mR at h
  split at h
  · exact ⟨_, _, rfl, h⟩
  · exact h.elim
theorem mA_e {st : List mVal} {k : mVal → List mVal → Prop} (h : mA st k) : ∃ x r, st = x :: r ∧ k x r := by
  unfold mA at h
  split at h
  · exact ⟨_, _, rfl, h⟩
  · exact h.elim
theorem mTag_e {sh : mSh} {k t : Nat} {c : Nat → Prop} (h : mTag sh k t c) : ∃ n, sh.1[k]? = some (t, n) ∧ c n := by
  unfold mTag at h
  split at h
  · rename_i t' n hq
    cases ht : (t' == t) with
    | true =>
      rw [ht] at h
      rw [eq_of_beq ht] at hq
      exact ⟨n, hq, h⟩
    | false => rw [ht] at h; exact h.elim
  · exact h.elim
theorem mRef_e {sh : mSh} {k j : Nat} {c : Nat → Prop} (h : mRef sh k j c) : ∃ t, sh.2.lookup (k, j) = some t ∧ c t := by
  unfold mRef at h
  split at h
  · exact ⟨_, by assumption, h⟩
  · exact h.elim
theorem toV_A (G : mG) (v : Nat ⊕ Nat) : ∃ x, toV G (.inr (.inr v)) = .ref x := by
  rcases v with k | i
  · exact ⟨_, rfl⟩
  · cases i <;> exact ⟨_, rfl⟩
