/-! SOUNDNESS 3: what a frame knows; a step of a frame -/
def slen : List Nat := [3, 6, 6, 6, 5, 5]
def sbyt : List (List Int32) := [[114, 111, 119], [116, 104, 114, 101, 97, 100], [98, 101, 115, 105, 100, 101], [109, 105, 114, 114, 111, 114], [97, 98, 111, 118, 101], [99, 114, 111, 115, 115]]
def gStr (G : mG) (U : State) (H : Heap) : Prop := (∃ adV : Nat → Nat, vk_S 6 slen sbyt (gK G) adV (gA G) U H) ∧ va_Z "java/lang/String" "COMPACT_STRINGS" "Z" (.int 1) (gA G) U H ∧ va_Zq "jdk/internal/util/Preconditions" "SIOOBE_FORMATTER" "Ljava/util/function/BiFunction;" (gA G) U H
def gW (G : mG) (U : State) (H : Heap) : Prop := va_K (gD G) classes (mtys G) U ∧ (∀ q ∈ lNs, va_Nw (.methodLinkNest (nR q.1.1) q.1.2 (mY q.2) "SamplerLaw") U) ∧ va_AO (nR 3) U ∧ (∀ i : Nat, i < 6 → vk_R (nR 4) (lSt.getD i 0) (lStT.getD i "") (gK G i) U) ∧ gStr G U H
theorem gW_call {G : mG} {U : State} {H : Heap} (g : JFrame) (mk : MethodId) (a : Array Value) (h : gW G U H) : gW G (U.calling g mk a) H := by
  obtain ⟨h1, h2, h3, h4, ⟨adV, h5⟩, h6, h7⟩ := h
  exact ⟨va_K.moved (Vm.Alike.refl U.vm) h1, fun q hq => va_Nw.same rfl rfl (h2 q hq), va_AO.moved (Vm.Alike.refl U.vm) h3, fun i hi => vk_R.same rfl (h4 i hi), ⟨adV, vk_S.moved (Vm.Alike.refl U.vm) h5⟩, va_Z.moved (Vm.Alike.refl U.vm) h6, h7.imp (fun q => va_Z.moved (Vm.Alike.refl U.vm) q) (fun ⟨f, q⟩ => ⟨f, va_Z.moved (Vm.Alike.refl U.vm) q⟩)⟩
theorem gW_warm {G : mG} {s U : State} {H0 H : Heap} (hW : s.WarmedH U.vm) (hk : ∀ q : Nat, q < H0.size → ¬ gA G q → H[q]? = H0[q]?) (h : gW G s H0) : gW G U H := by
  obtain ⟨h1, h2, h3, h4, ⟨adV, h5⟩, h6, h7⟩ := h
  exact ⟨va_K.moved hW.alike h1, fun q hq => va_Nw.warmM hW (h2 q hq), va_AO.moved hW.alike h3, fun i hi => vk_R.warm hW (h4 i hi), ⟨adV, (vk_S.moved hW.alike h5).kept hk⟩, (va_Z.moved hW.alike h6).kept hk, h7.imp (fun q => (va_Z.moved hW.alike q).kept hk) (fun ⟨f, q⟩ => ⟨f, (va_Z.moved hW.alike q).kept hk⟩)⟩
def mroom (d mc ms : Nat) : Room := { frames := d, cells := mc, slots := ms, locals := 33 * d }
def mws (y : Nat) : List Jvm.Cond := .code (mY y) (mCo y) (mMx y) (mRt y) :: mWS
def mPre (G : mG) (h : mHp) (U : State) : Prop := gW G U U.heap ∧ gOK G h U.heap ∧ gSz G ≤ U.heap.size ∧ U.heap.size ≤ gSz G + h.1.1.length
def mPost (G : mG) (r : Option mVal × mHp) : Array Value → State → Outcome → State → Prop := fun _ st oc t => (oc = .returned (r.1.map (toV G)) ∧ (∀ v ∈ r.1.toList, okV v) ∧ gOK G r.2 t.heap) ∧ va_F (gA G) st t
/-- method y, as a contract over the machine -/
def mMet (G : mG) (l : Launch) (d y : Nat) (as : List mVal) (h : mHp) (r : Option mVal × mHp) : Prop := ∀ mc ms : Nat, r.2.1.1.length = h.1.1.length + mc → mtot r.2.1.1 = mtot h.1.1 + ms → (∀ v ∈ as, okV v) → Met l (mY y) (mws y) (mroom d mc ms) (va_Pc (as.map (toV G)) (mPre G h)) (mPost G r) mc ms (gA G)
section
variable {p : Program} {l : Launch} {e : Env} {R : Room} {s : State} {m : MethodId} {args : Array Value} {below : List Frame} {meth : Method} {c : Code} {H : Heap} {locs : List Loc} {cells slots : Nat} {Q : State → Prop}
/-- what W may use of the heap's size -/
theorem W_sz {g : JFrame} (k : H.size ≤ s.heap.size + cells → W p l e R s m args below meth c H locs cells slots Q g) : W p l e R s m args below meth c H locs cells slots Q g := by
  intro T hT X
  have h1 : T.heap.size ≤ s.heap.size + cells := X.same.2.2.1
  exact k (by rw [← hT]; exact h1) T hT X
/-- behind a call -/
theorem W_call {G : mG} {pc : Nat} {ls : Array Slot} {st0 rest : List Value} {r : Option mVal × mHp} {a : Array Value} {mc ms : Nat} (hr : va_Run p l e R s m args below meth c H locs cells slots mc ms (F0 m pc ls st0) rest (mPost G r a) (gA G)) (hS : va_S (gA G) s.heap H locs)
    (kk : (∀ v ∈ r.1.toList, okV v) → ∀ (H1 : Heap) (locs1 : List Loc), gOK G r.2 H1 → va_S (gA G) s.heap H1 locs1 → W p l e R s m args below meth c H1 locs1 (cells + mc) (slots + ms) Q (F0 m (pc + 3) ls ((r.1.map (toV G)).toList ++ rest))) : W p l e R s m args below meth c H locs cells slots Q (F0 m pc ls st0) := by
  intro T hT X
  obtain ⟨v, st₀, t, T', L, h0, X', hL, e1, e2, ⟨⟨hv, hok, hg⟩, hz, hk⟩, st⟩ := hr T hT X
  cases hv
  rw [h0] at hz hk
  obtain ⟨t2, a1, b1⟩ := kk hok T'.heap (locs ++ L) (by rw [e1]; exact hg) ⟨Nat.le_trans hS.1 (by rw [e1]; exact hz), fun q h1 h2 => by rw [e1, hk q (Nat.lt_of_lt_of_le h1 hS.1) h2]; exact hS.2.1 q h1 h2, fun q hq => by
      rcases List.mem_append.mp hq with h | h
      · exact hS.2.2 q h
      · exact hL q h⟩ T' rfl X'
  exact ⟨t2, st t2 a1, b1⟩
end
/-- what a frame of a method with that code knows -/
def mXf (G : mG) (l : Launch) (own nL : Nat) (rt : Option FieldType) (ini : Bool) (cc : ByteArray) (d c0 s0 : Nat) (lim : Nat × Nat) (scr : Nat × (Nat → Int)) (p : Program) (R : Room) (s : State) (m : MethodId) (args : Array Value) (meth : Method) (c : Code) : Prop :=
  (p.tables.exec = Jvm.exec ∧ c.code = cc ∧ c.maxLocals = nL ∧ s.vm.findClass (nR own) = some m.cls ∧ (∀ w ∈ mWS, w.before args s = true)) ∧ gW G s s.heap ∧ (gSz G ≤ s.heap.size ∧ s.heap.size ≤ gSz G + c0) ∧ (ini = true → meth.name = "<init>") ∧ (d + 1 ≤ R.frames ∧ 33 * d + 33 ≤ R.locals) ∧ (lim.1 ≤ c0 + R.cells ∧ lim.2 ≤ s0 + R.slots) ∧ (scr.1 = 0 ∨ (va_X (gB G) (scr.1 - 1) (fun j => Int32.ofInt (scr.2 j)) s s.heap ∧ gB G < gSz G ∧ (∀ j, inR (scr.2 j)) ∧ scr.1 ≤ 1000))
def mV (G : mG) (p : Program) (l : Launch) (e : Env) (R : Room) (s : State) (m : MethodId) (args : Array Value) (below : List Frame) (meth : Method) (c : Code) (Q : State → Prop) (nL c0 s0 : Nat) (pc : Nat) (lv : mLV) (st : List mVal) (h : mHp) : Prop :=
  (∀ q ∈ lv, okV q.2) → (∀ v ∈ st, okV v) → ((c0 ≤ h.1.1.length ∧ s0 ≤ mtot h.1.1) ∧ h.1.1.length ≤ c0 + R.cells ∧ mtot h.1.1 ≤ s0 + R.slots) → ∀ (H : Heap) (locs : List Loc) (ls : Array Slot), gOK G h H → va_S (gA G) s.heap H locs → lv_has ls nL (tLV G lv) → W p l e R s m args below meth c H locs (h.1.1.length - c0) (mtot h.1.1 - s0) Q (F0 m pc ls (st.map (toV G)))
