/-! PURE PROOFS 30: methods by what they promise -/
theorem mR3_ex {d y : Nat} {as : List mVal} {M : mMem} {P : Option mVal → mMem → Prop} (hg : y < 191 ∧ (as.map mcat).sum ≤ mxl.getD y 0) (h : ∀ K, mClo (mP y) (mR3 d) (S0.1.length, mtot S0.1) (0, fun _ => 0) (fun v g => g.1 = S0 ∧ P v g.2) K → K 0 (margs 0 as) [] (S0, M)) : ∃ v m, P v m ∧ mR3 (d + 1) y as (S0, M) (v, (S0, m)) := by
  have q := h (fun t lv st g => Ex1 (fun r : Option mVal × mMem => P r.1 r.2) (fun r => ∀ K', mClo (mP y) (mR3 d) (S0.1.length, mtot S0.1) (0, fun _ => 0) (mret (r.1, (S0, r.2))) K' → K' t lv st g)) (by
    intro i pc rows hi lv st g q
    obtain ⟨r, hr, q'⟩ := mrun_ex (Q := fun r : Option mVal × mMem => P r.1 r.2) (ret' := fun r => mret (r.1, (S0, r.2))) (K' := fun r t lv st g => ∀ K', mClo (mP y) (mR3 d) (S0.1.length, mtot S0.1) (0, fun _ => 0) (mret (r.1, (S0, r.2))) K' → K' t lv st g) (fun v g hv => ⟨(v, g.2), hv.2, rfl, by
      obtain ⟨g1, g2⟩ := g
      have e : g1 = S0 := hv.1
      rw [e]⟩) (fun t lv st g z => z) rows pc lv st g q
    exact ⟨r, hr, fun K' hK' => hK' i pc rows hi lv st g (mrun_mo (fun t lv st g z => z K' hK') rows pc lv st g q')⟩)
  obtain ⟨r, hr, q'⟩ := q
  exact ⟨r.1, r.2, hr, hg, q'⟩
/-- y ends with an int for which P holds -/
def mI3 (d y : Nat) (as : List mVal) (M : mMem) (P : Int → mMem → Prop) : Prop := ∃ v m, P v m ∧ mR3 d y as (S0, M) (some (vi v), (S0, m))
def mL3 (d y : Nat) (as : List mVal) (M : mMem) (P : Int → mMem → Prop) : Prop := ∃ v m, P v m ∧ mR3 d y as (S0, M) (some (vl v), (S0, m))
def mN3 (d y : Nat) (as : List mVal) (M : mMem) (P : mMem → Prop) : Prop := ∃ m, P m ∧ mR3 d y as (S0, M) (none, (S0, m))
def rI (P : Int → mMem → Prop) : Option mVal → mHp → Prop := fun o g => g.1 = S0 ∧ ∃ v, o = some (vi v) ∧ P v g.2
def rL (P : Int → mMem → Prop) : Option mVal → mHp → Prop := fun o g => g.1 = S0 ∧ ∃ v, o = some (vl v) ∧ P v g.2
def rN (P : mMem → Prop) : Option mVal → mHp → Prop := fun o g => g.1 = S0 ∧ o = none ∧ P g.2
theorem rI_i {P : Int → mMem → Prop} {v : Int} {m : mMem} (h : P v m) : rI P (some (vi v)) (S0, m) := ⟨rfl, v, rfl, h⟩
theorem rL_i {P : Int → mMem → Prop} {v : Int} {m : mMem} (h : P v m) : rL P (some (vl v)) (S0, m) := ⟨rfl, v, rfl, h⟩
theorem rN_i {P : mMem → Prop} {m : mMem} (h : P m) : rN P none (S0, m) := ⟨rfl, rfl, h⟩
theorem mI3_i {d y : Nat} {as : List mVal} {M : mMem} {P : Int → mMem → Prop} (hg : y < 191 ∧ (as.map mcat).sum ≤ mxl.getD y 0) (h : ∀ K, mClo (mP y) (mR3 d) (S0.1.length, mtot S0.1) (0, fun _ => 0) (rI P) K → K 0 (margs 0 as) [] (S0, M)) : mI3 (d + 1) y as M P := by
  obtain ⟨v, m, ⟨w, e, p⟩, r⟩ := mR3_ex (P := fun o m => ∃ v, o = some (vi v) ∧ P v m) hg h
  rw [e] at r
  exact ⟨w, m, p, r⟩
theorem mL3_i {d y : Nat} {as : List mVal} {M : mMem} {P : Int → mMem → Prop} (hg : y < 191 ∧ (as.map mcat).sum ≤ mxl.getD y 0) (h : ∀ K, mClo (mP y) (mR3 d) (S0.1.length, mtot S0.1) (0, fun _ => 0) (rL P) K → K 0 (margs 0 as) [] (S0, M)) : mL3 (d + 1) y as M P := by
  obtain ⟨v, m, ⟨w, e, p⟩, r⟩ := mR3_ex (P := fun o m => ∃ v, o = some (vl v) ∧ P v m) hg h
  rw [e] at r
  exact ⟨w, m, p, r⟩
theorem mN3_i {d y : Nat} {as : List mVal} {M : mMem} {P : mMem → Prop} (hg : y < 191 ∧ (as.map mcat).sum ≤ mxl.getD y 0) (h : ∀ K, mClo (mP y) (mR3 d) (S0.1.length, mtot S0.1) (0, fun _ => 0) (rN P) K → K 0 (margs 0 as) [] (S0, M)) : mN3 (d + 1) y as M P := by
  obtain ⟨v, m, ⟨e, p⟩, r⟩ := mR3_ex (P := fun o m => o = none ∧ P m) hg h
  rw [e] at r
  exact ⟨m, p, r⟩
/-- going on behind a call -/
theorem cI {d y : Nat} {as : List mVal} {M : mMem} {P : Int → mMem → Prop} {C : Int → mMem → Prop} (h : mI3 d y as M P) (k : ∀ v m, P v m → C v m) : ∃ v m, mR3 d y as (S0, M) (some (vi v), (S0, m)) ∧ C v m := by
  obtain ⟨v, m, p, r⟩ := h
  exact ⟨v, m, r, k v m p⟩
theorem cL {d y : Nat} {as : List mVal} {M : mMem} {P : Int → mMem → Prop} {C : Int → mMem → Prop} (h : mL3 d y as M P) (k : ∀ v m, P v m → C v m) : ∃ v m, mR3 d y as (S0, M) (some (vl v), (S0, m)) ∧ C v m := by
  obtain ⟨v, m, p, r⟩ := h
  exact ⟨v, m, r, k v m p⟩
theorem cN {d y : Nat} {as : List mVal} {M : mMem} {P : mMem → Prop} {C : mMem → Prop} (h : mN3 d y as M P) (k : ∀ m, P m → C m) : ∃ m, mR3 d y as (S0, M) (none, (S0, m)) ∧ C m := by
  obtain ⟨m, p, r⟩ := h
  exact ⟨m, r, k m p⟩
