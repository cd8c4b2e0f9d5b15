/-! SOUNDNESS 1: the world of an abstract heap -/
abbrev mG : Type := Nat × Nat × (Nat → Nat) × va_G × ClassId × ClassId × ClassId
abbrev gSz (G : mG) : Nat := G.1
abbrev gB (G : mG) : Nat := G.2.1
abbrev gK (G : mG) : Nat → Nat := G.2.2.1
abbrev gD (G : mG) : va_G := G.2.2.2.1
abbrev gI (G : mG) : ClassId := G.2.2.2.2.1
abbrev gZ (G : mG) : ClassId := G.2.2.2.2.2.1
abbrev gS (G : mG) : ClassId := G.2.2.2.2.2.2
def gA (G : mG) : Nat → Prop := fun q => gSz G ≤ q
def mtys (G : mG) : List (ClassId × FieldType) := [(gI G, .int), (gZ G, .boolean), (gS G, .object (nR 3))]
def toV (G : mG) (v : mVal) : Value := match v with
  | .inl z => .int (Int32.ofInt z)
  | .inr (.inl z) => .long (Int64.ofInt z)
  | .inr (.inr (.inl k)) => .ref (gSz G + k)
  | .inr (.inr (.inr 0)) => .ref (gB G)
  | .inr (.inr (.inr (i + 1))) => .ref (gK G i)
def okV (v : mVal) : Prop := match v with
  | .inl z => inR z
  | .inr (.inl z) => inL z
  | .inr (.inr (.inl _)) => True
  | .inr (.inr (.inr 0)) => True
  | .inr (.inr (.inr (i + 1))) => i < 6
theorem toV_cat (G : mG) (v : mVal) : (toV G v).category = mcat v := by
  rcases v with z | z | k | i
  · rfl
  · rfl
  · rfl
  · cases i <;> rfl
def fvalF (G : mG) (m : Int → Int) (rf : Nat → Option Nat) (t j : Nat) : Value := bif nRf t j then va_rf ((rf j).map (gSz G + ·)) else .int (Int32.ofInt (m (j : Nat)))
def wentF (G : mG) (m : Int → Int) (rf : Nat → Option Nat) (q : Nat × Nat) : va_E := match q.1 with
  | 0 => .inl (gI G, q.2, .inl fun i => Int32.ofInt (m (i : Nat)))
  | 1 => .inl (gZ G, q.2, .inl fun i => Int32.ofInt (m (i : Nat)))
  | 2 => .inl (gS G, q.2, .inr (.inr (.inr (.inr fun i => (rf i).map (gSz G + ·)))))
  | t + 3 => .inr (t, (List.range q.2).map (fvalF G m rf t))
def mrf (h : mHp) (k : Nat) : Nat → Option Nat := fun j => h.1.2.lookup (k, j)
def mW (G : mG) (h : mHp) : va_W := h.1.1.mapIdx fun k q => (gSz G + k, wentF G (h.2 k) (mrf h k) q)
theorem mW_at {G : mG} {h : mHp} {k : Nat} {q : Nat × Nat} (hk : h.1.1[k]? = some q) : (mW G h)[k]? = some (gSz G + k, wentF G (h.2 k) (mrf h k) q) := by
  simp [mW, List.getElem?_mapIdx, hk]
theorem mW_key {G : mG} {h : mHp} {k : Nat} {q : Nat × va_E} (hk : (mW G h)[k]? = some q) : q.1 = gSz G + k ∧ k < h.1.1.length := by
  simp only [mW, List.getElem?_mapIdx] at hk
  cases hq : h.1.1[k]? with
  | none => rw [hq] at hk; cases hk
  | some x =>
    rw [hq] at hk
    cases hk
    exact ⟨rfl, (List.getElem?_eq_some_iff.mp hq).1⟩
theorem mW_D (G : mG) (h : mHp) : va_D (gA G) (mW G h) := by
  refine ⟨fun i j p q hi hj e => ?_, fun k q hk => ?_⟩
  · have h1 := (mW_key hi).1
    have h2 := (mW_key hj).1
    omega
  · have h1 := (mW_key hk).1
    show gSz G ≤ q.1
    omega
theorem mW_set {G : mG} {h h' : mHp} {k : Nat} {q : Nat × Nat} (hk : h.1.1[k]? = some q) (hl : h'.1.1 = h.1.1) (ho : ∀ j : Nat, j ≠ k → h'.2 j = h.2 j ∧ mrf h' j = mrf h j) : mW G h' = (mW G h).set k (gSz G + k, wentF G (h'.2 k) (mrf h' k) q) := by
  have hlen : k < (mW G h).length := by
    have := (List.getElem?_eq_some_iff.mp hk).1
    simpa [mW] using this
  refine List.ext_getElem? fun j => ?_
  by_cases hj : j = k
  · subst hj
    rw [List.getElem?_set_self hlen, mW_at (by rw [hl]; exact hk)]
  · rw [List.getElem?_set_ne (Ne.symm hj)]
    simp only [mW, List.getElem?_mapIdx, hl, (ho j hj).1, (ho j hj).2]
theorem mrf_m (h : mHp) (m : mMem) (k : Nat) : mrf (h.1, m) k = mrf h k := rfl
theorem arr_upd (m : Int → Int) {i v : Int} (hi : inR i) (h0 : 0 ≤ i) : (fun j : Nat => Int32.ofInt ((fun x : Int => if x = i then v else m x) (j : Nat))) = upd (fun j : Nat => Int32.ofInt (m (j : Nat))) (Int32.ofInt i).toNatClampNeg (Int32.ofInt v) := by
  funext j
  rw [i_clamp hi]
  unfold upd
  by_cases hj : j = i.toNat
  · have : (j : Int) = i := by omega
    rw [if_pos hj]
    show Int32.ofInt (if (j : Int) = i then v else m j) = _
    rw [if_pos this]
  · have : (j : Int) ≠ i := by omega
    rw [if_neg hj]
    show Int32.ofInt (if (j : Int) = i then v else m j) = _
    rw [if_neg this]
theorem mupd_k (m : mMem) (k : Nat) (i v : Int) : mupd m k i v k = fun x => if x = i then v else m k x := by
  funext x; simp [mupd]
theorem mupd_o (m : mMem) {k j : Nat} (i v : Int) (hj : j ≠ k) : mupd m k i v j = m j := by
  funext x; simp [mupd, hj]
theorem mupd_in {m : mMem} {k : Nat} {i v : Int} (hm : ∀ k i, inR (m k i)) (hv : inR v) : ∀ k' i', inR (mupd m k i v k' i') := by
  intro k' i'
  unfold mupd
  split
  · exact hv
  · exact hm _ _
theorem obj_upd {G : mG} {m : Int → Int} {rf : Nat → Option Nat} {t n b : Nat} {v : Int} (hr : nRf t b = false) : (List.range n).map (fvalF G (fun x => if x = (b : Nat) then v else m x) rf t) = ((List.range n).map (fvalF G m rf t)).set b (.int (Int32.ofInt v)) := by
  refine List.ext_getElem? fun j => ?_
  by_cases hj : j < n
  · by_cases hb : j = b
    · subst hb
      rw [List.getElem?_set_self (by simpa using hj)]
      simp [hj, fvalF, hr]
    · rw [List.getElem?_set_ne (Ne.symm hb)]
      have : (j : Int) ≠ (b : Int) := by omega
      simp [hj, fvalF, this]
  · rw [List.getElem?_eq_none (by simp; omega), List.getElem?_eq_none (by simp; omega)]
theorem obj_ref {G : mG} {m : Int → Int} {rf : Nat → Option Nat} {t n b v : Nat} (hr : nRf t b = true) : (List.range n).map (fvalF G m (fun j => if j = b then some v else rf j) t) = ((List.range n).map (fvalF G m rf t)).set b (.ref (gSz G + v)) := by
  refine List.ext_getElem? fun j => ?_
  by_cases hj : j < n
  · by_cases hb : j = b
    · subst hb
      rw [List.getElem?_set_self (by simpa using hj)]
      simp [hj, fvalF, hr, va_rf]
    · rw [List.getElem?_set_ne (Ne.symm hb)]
      simp [hj, fvalF, hb]
  · rw [List.getElem?_eq_none (by simp; omega), List.getElem?_eq_none (by simp; omega)]
theorem mrf_cons {sh : List (Nat × Nat)} {rf : List ((Nat × Nat) × Nat)} {m : mMem} {k b v : Nat} (j : Nat) : mrf ((sh, ((k, b), v) :: rf), m) j = if j = k then (fun i => if i = b then some v else mrf ((sh, rf), m) k i) else mrf ((sh, rf), m) j := by
  funext i
  unfold mrf
  rw [List.lookup_cons]
  by_cases hj : j = k
  · by_cases hi : i = b
    · subst hj; subst hi
      simp
    · have : ((j, i) == (k, b)) = false := by simp [hi]
      rw [this]
      simp [hj, hi]
  · have : ((j, i) == (k, b)) = false := by simp [hj]
    rw [this]
    simp [hj]
def shOK (sh : mSh) : Prop := (∀ k t n : Nat, sh.1[k]? = some (t + 3, n) → n = nN t ∧ t < 7) ∧ (∀ q ∈ sh.2, q.1.1 < sh.1.length) ∧ ∀ q ∈ sh.1, q.2 ≤ 1000
def gOK (G : mG) (h : mHp) (H : Heap) : Prop := va_P (gD G) classes (mW G h) H ∧ shOK h.1 ∧ ∀ k i, inR (h.2 k i)
theorem cls_at {t : Nat} (h : t < 7) : classes[t]? = some (nR t, nT t, nN t) := by
  unfold classes
  rw [List.getElem?_map, List.getElem?_range h]
  rfl
theorem u_in {t : Nat} (h : t < 7) : ∀ w ∈ u_ws (nR t) (nT t) (nN t), w ∈ mWS := by
  have key : ∀ t' : Nat, (∀ k ∈ List.range (nN t'), wAt ((nLp.getD t' []).getD k 0) (u_lay (nR t') (nT t') k)) → ∀ w ∈ u_ws (nR t') (nT t') (nN t'), w ∈ mWS := by
    intro t' hk w hw
    obtain ⟨k, h1, rfl⟩ := List.mem_map.mp hw
    refine wAt_in (hk k h1) ?_
    unfold u_lay
    split <;> rfl
  rcases (show t = 0 ∨ t = 1 ∨ t = 2 ∨ t = 3 ∨ t = 4 ∨ t = 5 ∨ t = 6 by omega) with rfl | rfl | rfl | rfl | rfl | rfl | rfl
  · exact key 0 nL_w0
  · exact key 1 nL_w1
  · exact key 2 nL_w2
  · exact key 3 nL_w3
  · exact key 4 nL_w4
  · exact key 5 nL_w5
  · exact key 6 nL_w6
theorem nTy_of {t k : Nat} (h : t < 7) (hk : k < nN t) : parseFieldDescriptor (nT t k).2.2.1 = some (nTy t k) ∧ (nRf t k = true → (nFk t k).2.2 = true ∧ ((∃ c, nTy t k = .object c) ∨ ∃ c, nTy t k = .array c)) ∧ (nRf t k = false → (nFk t k).2.2 = false ∧ ((nTy t k = .int ∧ (nFk t k).2.1 = "I") ∨ (nTy t k = .boolean ∧ (nFk t k).2.1 = "Z"))) := by
  have h1 := List.all_eq_true.mp (List.all_eq_true.mp nTy_all t (List.mem_range.mpr h)) k (List.mem_range.mpr hk)
  rw [Bool.and_eq_true, decide_eq_true_eq] at h1
  refine ⟨h1.1, fun hr => ?_, fun hr => ?_⟩
  · have h2 := h1.2
    rw [hr] at h2
    simp only [cond_true, Bool.and_eq_true] at h2
    refine ⟨h2.1, ?_⟩
    have h3 := h2.2
    split at h3
    · exact Or.inl ⟨_, by assumption⟩
    · exact Or.inr ⟨_, by assumption⟩
    · cases h3
  · have h2 := h1.2
    rw [hr] at h2
    simp only [cond_false, Bool.and_eq_true] at h2
    refine ⟨by simpa using h2.1, ?_⟩
    have h3 := h2.2
    split at h3
    · exact Or.inl ⟨by assumption, by simpa using h3⟩
    · exact Or.inr ⟨by assumption, by simpa using h3⟩
    · cases h3
theorem nNm_of {t : Nat} (h : t < 7) : ∀ a, a < nN t → ∀ b, b < nN t → a ≠ b → (nT t a).2.1 ≠ (nT t b).2.1 := by
  intro a ha b hb hab
  have h1 := List.all_eq_true.mp (List.all_eq_true.mp (List.all_eq_true.mp nNm_all t (List.mem_range.mpr h)) b (List.mem_range.mpr hb)) a (List.mem_range.mpr ha)
  simp only [Bool.or_eq_true, decide_eq_true_eq, Bool.not_eq_true'] at h1
  rcases h1 with h1 | h1
  · exact absurd h1 hab
  · show (nFk t a).1 ≠ (nFk t b).1
    simpa using h1
