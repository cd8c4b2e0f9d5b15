section
def i_fv : Nat := 9
theorem wJ_fv : (Jvm.Cond.fieldLink "java/lang/String" i_fv "java/lang/String" "value" "[B") ∈ mWS := wAt_in (p := 5176) rfl rfl
def i_fc : Nat := 15
theorem wJ_fc : (Jvm.Cond.fieldLink "java/lang/String" i_fc "java/lang/String" "coder" "B") ∈ mWS := wAt_in (p := 5177) rfl rfl
def i_fz : Nat := 38
theorem wJ_fz : (Jvm.Cond.fieldLink "java/lang/String" i_fz "java/lang/String" "COMPACT_STRINGS" "Z") ∈ mWS := wAt_in (p := 2033) rfl rfl
def i_ff : Nat := 1053
theorem wJ_ff : (Jvm.Cond.fieldLink "java/lang/String" i_ff "jdk/internal/util/Preconditions" "SIOOBE_FORMATTER" "Ljava/util/function/BiFunction;") ∈ mWS := wAt_in (p := 2049) rfl rfl
def i_mcoder : Nat := 335
theorem wJ_mcoder : (Jvm.Cond.methodLink "java/lang/String" i_mcoder ⟨"java/lang/String", "coder", "()B"⟩) ∈ mWS := wAt_in (p := 2029) rfl rfl
def i_mlat : Nat := 492
theorem wJ_mlat : (Jvm.Cond.methodLink "java/lang/String" i_mlat ⟨"java/lang/String", "isLatin1", "()Z"⟩) ∈ mWS := wAt_in (p := 2039) rfl rfl
def i_ml1 : Nat := 495
theorem wJ_ml1 : (Jvm.Cond.methodLink "java/lang/String" i_ml1 ⟨"java/lang/StringLatin1", "charAt", "([BI)C"⟩) ∈ mWS := wAt_in (p := 2043) rfl rfl
def i_mci : Nat := 9
theorem wJ_mci : (Jvm.Cond.methodLink "java/lang/StringLatin1" i_mci ⟨"java/lang/String", "checkIndex", "(II)V"⟩) ∈ mWS := wAt_in (p := 2046) rfl rfl
def i_mpc : Nat := 1059
theorem wJ_mpc : (Jvm.Cond.methodLink "java/lang/String" i_mpc ⟨"jdk/internal/util/Preconditions", "checkIndex", "(IILjava/util/function/BiFunction;)I"⟩) ∈ mWS := wAt_in (p := 2051) rfl rfl
theorem wJ_coderI : (Jvm.Cond.instanceMethod ⟨"java/lang/String", "coder", "()B"⟩) ∈ mWS := wAt_in (p := 2030) rfl rfl
theorem wJ_coderV : (Jvm.Cond.selects "java/lang/String" ⟨"java/lang/String", "coder", "()B"⟩ ⟨"java/lang/String", "coder", "()B"⟩) ∈ mWS := wAt_in (p := 2031) rfl rfl
theorem wJ_latI : (Jvm.Cond.instanceMethod ⟨"java/lang/String", "isLatin1", "()Z"⟩) ∈ mWS := wAt_in (p := 2040) rfl rfl
theorem wJ_latV : (Jvm.Cond.selects "java/lang/String" ⟨"java/lang/String", "isLatin1", "()Z"⟩ ⟨"java/lang/String", "isLatin1", "()Z"⟩) ∈ mWS := wAt_in (p := 2041) rfl rfl
theorem wJ_l1S : (Jvm.Cond.static ⟨"java/lang/StringLatin1", "charAt", "([BI)C"⟩) ∈ mWS := wAt_in (p := 2044) rfl rfl
theorem wJ_ciS : (Jvm.Cond.static ⟨"java/lang/String", "checkIndex", "(II)V"⟩) ∈ mWS := wAt_in (p := 2047) rfl rfl
theorem wJ_pcS : (Jvm.Cond.static ⟨"jdk/internal/util/Preconditions", "checkIndex", "(IILjava/util/function/BiFunction;)I"⟩) ∈ mWS := wAt_in (p := 2052) rfl rfl
theorem wJ_iS : (Jvm.Cond.initialized "java/lang/String") ∈ mWS := wAt_in (p := 1009) rfl rfl
theorem wJ_iL1 : (Jvm.Cond.initialized "java/lang/StringLatin1") ∈ mWS := wAt_in (p := 1010) rfl rfl
theorem wJ_iPC : (Jvm.Cond.initialized "jdk/internal/util/Preconditions") ∈ mWS := wAt_in (p := 1011) rfl rfl
abbrev c_coder : ByteArray := prog_10_method_152_code
theorem wJ_coderC : (Jvm.Cond.code ⟨"java/lang/String", "coder", "()B"⟩ c_coder 1 (some .byte)) ∈ mWS := wAt_in (p := 2032) rfl rfl
abbrev c_lat : ByteArray := prog_10_method_154_code
theorem wJ_latC : (Jvm.Cond.code ⟨"java/lang/String", "isLatin1", "()Z"⟩ c_lat 1 (some .boolean)) ∈ mWS := wAt_in (p := 2042) rfl rfl
abbrev c_l1 : ByteArray := prog_11_method_2_code
theorem wJ_l1C : (Jvm.Cond.code ⟨"java/lang/StringLatin1", "charAt", "([BI)C"⟩ c_l1 2 (some .char)) ∈ mWS := wAt_in (p := 2045) rfl rfl
abbrev c_ci : ByteArray := prog_10_method_155_code
theorem wJ_ciC : (Jvm.Cond.code ⟨"java/lang/String", "checkIndex", "(II)V"⟩ c_ci 2 (none)) ∈ mWS := wAt_in (p := 2048) rfl rfl
abbrev c_pc : ByteArray := prog_15_method_11_code
theorem wJ_pcC : (Jvm.Cond.code ⟨"jdk/internal/util/Preconditions", "checkIndex", "(IILjava/util/function/BiFunction;)I"⟩ c_pc 3 (some .int)) ∈ mWS := wAt_in (p := 2053) rfl rfl
end
section
/-! String.length, String.charAt of the literals -/
def gX (G : mG) (adV : Nat → Nat) (U : State) : Prop := gW G U U.heap ∧ vk_S 6 slen sbyt (gK G) adV (gA G) U U.heap
theorem gX_blind {G : mG} {adV : Nat → Nat} {av : List Value} : FrameBlind (va_Pc av (gX G adV)) := fun _ U g mk q => ⟨q.1, gW_call g mk _ q.2.1, vk_S.moved (Vm.Alike.refl U.vm) q.2.2⟩
theorem gX_warm {G : mG} {adV : Nat → Nat} {s U : State} (hW : s.WarmedH U.vm) (hh : U.heap = s.heap) (h : gX G adV s) : gX G adV U := ⟨gW_warm hW (fun q _ _ => by rw [hh]) h.1, (vk_S.moved hW.alike h.2).kept (fun q _ _ => by rw [hh])⟩
def wJ (y : MethodName) (cd : ByteArray) (n : Nat) (rt : Option FieldType) : List Jvm.Cond := .code y cd n rt :: mWS
theorem wJ_good {y : MethodName} {cd : ByteArray} {n : Nat} {rt : Option FieldType} (h : Jvm.Cond.code y cd n rt ∈ mWS) : GoodIn mWS (wJ y cd n rt) := by
  intro w hw
  rcases List.mem_cons.mp hw with rfl | hw
  · exact good_ws h
  · exact good_ws hw
section
variable {p : Program} {l : Launch} {e : Env} {R : Room} {s : State} {m : MethodId} {args : Array Value} {below : List Frame} {meth : Method} {c : Code} {H : Heap} {locs : List Loc} {cells slots : Nat} {Q : State → Prop} {pc : Nat} {ls : Array Slot} {rest st0 : List Value} {a : Array Value}
theorem W_callSv {post : Unit → Prop} (hr : va_Run p l e R s m args below meth c H locs cells slots 0 0 (F0 m pc ls st0) rest (va_Sv post a) (fun _ => False)) (kk : W p l e R s m args below meth c H locs cells slots Q (F0 m (pc + 3) ls rest)) : W p l e R s m args below meth c H locs cells slots Q (F0 m pc ls st0) := by
  intro T hT X
  obtain ⟨v, st₀, t, T', L, h0, X', hL, e1, e2, ⟨hv, hp, hh⟩, st⟩ := hr T hT X
  cases hv
  obtain ⟨t2, a1, b1⟩ := kk T' (by rw [e1, hh, h0]) (Stand.forget X' (fun q h => (hL q h).elim))
  exact ⟨t2, st t2 a1, b1⟩
end
def y_pc : MethodName := ⟨"jdk/internal/util/Preconditions", "checkIndex", "(IILjava/util/function/BiFunction;)I"⟩
def y_ci : MethodName := ⟨"java/lang/String", "checkIndex", "(II)V"⟩
def y_l1 : MethodName := ⟨"java/lang/StringLatin1", "charAt", "([BI)C"⟩
def y_lat : MethodName := ⟨"java/lang/String", "isLatin1", "()Z"⟩
def y_coder : MethodName := ⟨"java/lang/String", "coder", "()B"⟩
set_option maxRecDepth 20000 in
theorem met_pcr (G : mG) (l : Launch) (adV : Nat → Nat) {i n : Int32} (f : Nat) (h0 : ¬ i < 0) (h1 : i < n) : Met l y_pc (wJ y_pc c_pc 3 (some .int)) (mroom 1 0 0) (va_Pc [.int i, .int n, .ref f] (gX G adV)) (vp_Si (fun r => r = i)) 0 0 (fun _ => False) := by
  refine Met.ofW (cc := c_pc) (maxL := 3) (ret := some .int) (by decide +kernel) rfl ?_
  intro p e s m args below meth c s₁ B hml hv
  obtain ⟨rfl, hG⟩ := hv
  have hx := B.exec
  have hb := B.bytes
  have hr := B.returns
  have hlocks := B.notSynchronized
  have hl := lv_entry [.int i, .int n, .ref f] (n := 3) (Nat.le_of_ble_eq_true rfl)
  rw [lg_entry_eq]
  generalize (lg_sl [.int i, .int n, .ref f] ++ List.replicate (3 - (lg_sl [.int i, .int n, .ref f]).length) Slot.unset).toArray = ls at hl ⊢
  have hl : lv_has ls 3 [(0, .int i), (1, .int n), (2, .ref f)] := hl
  refine lv_iload_n (k := 0) hx hb (by decide +kernel) rfl (lv_at hl 0 rfl) ?_
  refine lv_if_lt (off := 8) (tgt := 9) hx hb (by decide +kernel) (by decide) (fun q => absurd q h0) (fun _ => ?_)
  refine lv_iload_n (k := 0) hx hb (by decide +kernel) rfl (lv_at hl 0 rfl) ?_
  refine lv_iload_n (k := 1) hx hb (by decide +kernel) rfl (lv_at hl 1 rfl) ?_
  refine lv_icmp_lt (off := 10) (tgt := 16) hx hb (by decide +kernel) (by decide) (fun _ => ?_) (fun q => absurd h1 q)
  refine lv_iload_n (k := 0) hx hb (by decide +kernel) rfl (lv_at hl 0 rfl) ?_
  exact W.iret hx hb hr (fun t ht _ => ⟨i, rfl, rfl, ht⟩) (fun _ q => by cases q) (by decide +kernel)
set_option maxRecDepth 20000 in
theorem met_pcn (G : mG) (l : Launch) (adV : Nat → Nat) {i n : Int32} (h0 : ¬ i < 0) (h1 : i < n) : Met l y_pc (wJ y_pc c_pc 3 (some .int)) (mroom 1 0 0) (va_Pc [.int i, .int n, .null] (gX G adV)) (vp_Si (fun r => r = i)) 0 0 (fun _ => False) := by
  refine Met.ofW (cc := c_pc) (maxL := 3) (ret := some .int) (by decide +kernel) rfl ?_
  intro p e s m args below meth c s₁ B hml hv
  obtain ⟨rfl, hG⟩ := hv
  have hx := B.exec
  have hb := B.bytes
  have hr := B.returns
  have hlocks := B.notSynchronized
  have hl := lv_entry [.int i, .int n, .null] (n := 3) (Nat.le_of_ble_eq_true rfl)
  rw [lg_entry_eq]
  generalize (lg_sl [.int i, .int n, .null] ++ List.replicate (3 - (lg_sl [.int i, .int n, .null]).length) Slot.unset).toArray = ls at hl ⊢
  have hl : lv_has ls 3 [(0, .int i), (1, .int n), (2, .null)] := hl
  refine lv_iload_n (k := 0) hx hb (by decide +kernel) rfl (lv_at hl 0 rfl) ?_
  refine lv_if_lt (off := 8) (tgt := 9) hx hb (by decide +kernel) (by decide) (fun q => absurd q h0) (fun _ => ?_)
  refine lv_iload_n (k := 0) hx hb (by decide +kernel) rfl (lv_at hl 0 rfl) ?_
  refine lv_iload_n (k := 1) hx hb (by decide +kernel) rfl (lv_at hl 1 rfl) ?_
  refine lv_icmp_lt (off := 10) (tgt := 16) hx hb (by decide +kernel) (by decide) (fun _ => ?_) (fun q => absurd h1 q)
  refine lv_iload_n (k := 0) hx hb (by decide +kernel) rfl (lv_at hl 0 rfl) ?_
  exact W.iret hx hb hr (fun t ht _ => ⟨i, rfl, rfl, ht⟩) (fun _ q => by cases q) (by decide +kernel)
set_option maxRecDepth 20000 in
theorem met_ci (G : mG) (l : Launch) (adV : Nat → Nat) {i n : Int32} (h0 : ¬ i < 0) (h1 : i < n) : Met l y_ci (wJ y_ci c_ci 2 none) (mroom 2 0 0) (va_Pc [.int i, .int n] (gX G adV)) (va_Sv (fun _ => True)) 0 0 (fun _ => False) := by
  refine Met.ofW (cc := c_ci) (maxL := 2) (ret := none) (by decide +kernel) rfl ?_
  intro p e s m args below meth c s₁ B hml hv
  obtain ⟨rfl, hG⟩ := hv
  have hx := B.exec
  have hb := B.bytes
  have hr := B.returns
  have hlocks := B.notSynchronized
  have hts0 := atoms_spec (ws := wJ y_ci c_ci 2 none) B.pre
  have hts : ∀ w ∈ mWS, w.before ([.int i, .int n] : List Value).toArray s = true := fun w hw => hts0 w (List.mem_cons_of_mem _ hw)
  have hown : s.vm.findClass "java/lang/String" = some m.cls := findClass_of_methodNamed B.named
  have hl := lv_entry [.int i, .int n] (n := 2) (Nat.le_of_ble_eq_true rfl)
  rw [lg_entry_eq]
  generalize (lg_sl [.int i, .int n] ++ List.replicate (2 - (lg_sl [.int i, .int n]).length) Slot.unset).toArray = ls at hl ⊢
  have hl : lv_has ls 2 [(0, .int i), (1, .int n)] := hl
  refine lv_iload_n (k := 0) hx hb (by decide +kernel) rfl (lv_at hl 0 rfl) ?_
  refine lv_iload_n (k := 1) hx hb (by decide +kernel) rfl (lv_at hl 1 rfl) ?_
  rcases hG.1.2.2.2.2.2.2 with hf | ⟨f, hf⟩
  · refine va_gets (own := "java/lang/String") (index := i_ff) (A := gA G) hx hb hf va_S.rf hown (hts _ wJ_ff) (fun _ h => h) (by decide +kernel) ?_
    have hcb : CallB (headSpec (wJ y_ci c_ci 2 none) (mroom 2 0 0)).room s ([.int i, .int n] : List Value).toArray "java/lang/String" i_mpc y_pc c_pc 3 (some .int) (wJ y_pc c_pc 3 (some .int)) (mroom 1 0 0) 0 0 3 := callB_of 3 hts (wJ_good wJ_pcC) rfl rfl rfl (hts _ wJ_iPC) (hts _ wJ_mpc) ⟨by decide, by decide, by decide +kernel⟩ ⟨Nat.le_of_ble_eq_true rfl, Nat.le_of_ble_eq_true rfl⟩
    refine W_callSi (pc := 5) (va_runS (As := [.int i, .int n, .null]) (rest := []) ⟨hx, hb, hml, hown, hts⟩ (met_pcn G l adV h0 h1) ⟨hcb, hts _ wJ_pcS⟩ ⟨gX_blind, fun U hU hWm => ⟨rfl, gX_warm hWm hU hG⟩⟩ rfl rfl hl.1 rfl (lv_room (Nat.le_of_ble_eq_true rfl)) (show decode c_ci 5 = .ok (.invokestatic i_mpc, 3) by decide +kernel) ⟨Nat.le_of_ble_eq_true rfl, Nat.le_of_ble_eq_true rfl⟩) (fun z hz => ?_)
    refine lv_pop hx hb (by decide +kernel) rfl ?_
    exact W.vret hx hb hr (fun t ht _ => ⟨rfl, trivial, ht⟩) (fun _ q => by cases q) (by decide +kernel)
  · refine va_gets (own := "java/lang/String") (index := i_ff) (A := gA G) hx hb hf va_S.rf hown (hts _ wJ_ff) (fun _ h => h) (by decide +kernel) ?_
    have hcb : CallB (headSpec (wJ y_ci c_ci 2 none) (mroom 2 0 0)).room s ([.int i, .int n] : List Value).toArray "java/lang/String" i_mpc y_pc c_pc 3 (some .int) (wJ y_pc c_pc 3 (some .int)) (mroom 1 0 0) 0 0 3 := callB_of 3 hts (wJ_good wJ_pcC) rfl rfl rfl (hts _ wJ_iPC) (hts _ wJ_mpc) ⟨by decide, by decide, by decide +kernel⟩ ⟨Nat.le_of_ble_eq_true rfl, Nat.le_of_ble_eq_true rfl⟩
    refine W_callSi (pc := 5) (va_runS (As := [.int i, .int n, .ref f]) (rest := []) ⟨hx, hb, hml, hown, hts⟩ (met_pcr G l adV f h0 h1) ⟨hcb, hts _ wJ_pcS⟩ ⟨gX_blind, fun U hU hWm => ⟨rfl, gX_warm hWm hU hG⟩⟩ rfl rfl hl.1 rfl (lv_room (Nat.le_of_ble_eq_true rfl)) (show decode c_ci 5 = .ok (.invokestatic i_mpc, 3) by decide +kernel) ⟨Nat.le_of_ble_eq_true rfl, Nat.le_of_ble_eq_true rfl⟩) (fun z hz => ?_)
    refine lv_pop hx hb (by decide +kernel) rfl ?_
    exact W.vret hx hb hr (fun t ht _ => ⟨rfl, trivial, ht⟩) (fun _ q => by cases q) (by decide +kernel)
theorem s_len : ∀ i : Nat, i < 6 → slen.getD i 0 = (mstrs.getD i []).length ∧ (mstrs.getD i []).length ≤ 6 := by
  intro i hi
  rcases (show i = 0 ∨ i = 1 ∨ i = 2 ∨ i = 3 ∨ i = 4 ∨ i = 5 by omega) with rfl | rfl | rfl | rfl | rfl | rfl <;> decide
theorem s_chr : ∀ i : Nat, i < 6 → ∀ j : Nat, j < (mstrs.getD i []).length → ((((sbyt.getD i []).getD j 0) &&& 255).toUInt32 % 65536).toInt32 = Int32.ofInt (((mstrs.getD i []).getD j 0 : Nat) : Int) ∧ narrow .char (.int (Int32.ofInt (((mstrs.getD i []).getD j 0 : Nat) : Int))) = .int (Int32.ofInt (((mstrs.getD i []).getD j 0 : Nat) : Int)) := by
  intro i hi
  rcases (show i = 0 ∨ i = 1 ∨ i = 2 ∨ i = 3 ∨ i = 4 ∨ i = 5 by omega) with rfl | rfl | rfl | rfl | rfl | rfl <;> decide +kernel
set_option maxRecDepth 20000 in
theorem met_l1 (G : mG) (l : Launch) (adV : Nat → Nat) {i : Nat} (hi : i < 6) {j : Int} (h0 : 0 ≤ j) (h1 : j < ((mstrs.getD i []).length : Nat)) : Met l y_l1 (wJ y_l1 c_l1 2 (some .char)) (mroom 3 0 0) (va_Pc [.ref (adV i), .int (Int32.ofInt j)] (gX G adV)) (vp_Si (fun r => r = Int32.ofInt (((mstrs.getD i []).getD j.toNat 0 : Nat) : Int))) 0 0 (fun _ => False) := by
  refine Met.ofW (cc := c_l1) (maxL := 2) (ret := some .char) (by decide +kernel) rfl ?_
  intro p e s m args below meth c s₁ B hml hv
  obtain ⟨rfl, hG⟩ := hv
  have hx := B.exec
  have hb := B.bytes
  have hr := B.returns
  have hlocks := B.notSynchronized
  have hts0 := atoms_spec (ws := wJ y_l1 c_l1 2 (some .char)) B.pre
  have hts : ∀ w ∈ mWS, w.before ([.ref (adV i), .int (Int32.ofInt j)] : List Value).toArray s = true := fun w hw => hts0 w (List.mem_cons_of_mem _ hw)
  have hown : s.vm.findClass "java/lang/StringLatin1" = some m.cls := findClass_of_methodNamed B.named
  have hT := (hG.2.1 i hi).2.2.2
  obtain ⟨hsl, hs6⟩ := s_len i hi
  rw [hsl] at hT
  have hjR : inR j := by unfold inR; omega
  have hlR : inR (((mstrs.getD i []).length : Nat) : Int) := by unfold inR; omega
  have hn0 : ¬ Int32.ofInt j < 0 := by rw [show (0 : Int32) = Int32.ofInt 0 from rfl, i_lt hjR inR_0]; omega
  have hn1 : Int32.ofInt j < Int32.ofInt (((mstrs.getD i []).length : Nat) : Int) := by rw [i_lt hjR hlR]; exact h1
  have hin : vp_in (Int32.ofInt j) (mstrs.getD i []).length := i_in hjR h0 h1
  have hl := lv_entry [.ref (adV i), .int (Int32.ofInt j)] (n := 2) (Nat.le_of_ble_eq_true rfl)
  rw [lg_entry_eq]
  generalize (lg_sl [.ref (adV i), .int (Int32.ofInt j)] ++ List.replicate (2 - (lg_sl [.ref (adV i), .int (Int32.ofInt j)]).length) Slot.unset).toArray = ls at hl ⊢
  have hl : lv_has ls 2 [(0, .ref (adV i)), (1, .int (Int32.ofInt j))] := hl
  refine lv_iload_n (k := 1) hx hb (by decide +kernel) rfl (lv_at hl 1 rfl) ?_
  refine lv_aload_n (k := 0) hx hb (by decide +kernel) rfl (lv_at hl 0 rfl) ?_
  refine va_tlen hx hb hT va_S.rf (v := Int32.ofInt (((mstrs.getD i []).length : Nat) : Int)) (Int32.ofInt_eq_ofNat).symm (by decide +kernel) ?_
  have hcb : CallB (headSpec (wJ y_l1 c_l1 2 (some .char)) (mroom 3 0 0)).room s ([.ref (adV i), .int (Int32.ofInt j)] : List Value).toArray "java/lang/StringLatin1" i_mci y_ci c_ci 2 none (wJ y_ci c_ci 2 none) (mroom 2 0 0) 0 0 2 := callB_of 2 hts (wJ_good wJ_ciC) rfl rfl rfl (hts _ wJ_iS) (hts _ wJ_mci) ⟨by decide, by decide, by decide +kernel⟩ ⟨Nat.le_of_ble_eq_true rfl, Nat.le_of_ble_eq_true rfl⟩
  refine W_callSv (pc := 3) (va_runS (As := [.int (Int32.ofInt j), .int (Int32.ofInt (((mstrs.getD i []).length : Nat) : Int))]) (rest := []) ⟨hx, hb, hml, hown, hts⟩ (met_ci G l adV hn0 hn1) ⟨hcb, hts _ wJ_ciS⟩ ⟨gX_blind, fun U hU hWm => ⟨rfl, gX_warm hWm hU hG⟩⟩ rfl rfl hl.1 rfl (lv_room (Nat.le_of_ble_eq_true rfl)) (show decode c_l1 3 = .ok (.invokestatic i_mci, 3) by decide +kernel) ⟨Nat.le_of_ble_eq_true rfl, Nat.le_of_ble_eq_true rfl⟩) ?_
  refine lv_aload_n (k := 0) hx hb (by decide +kernel) rfl (lv_at hl 0 rfl) ?_
  refine lv_iload_n (k := 1) hx hb (by decide +kernel) rfl (lv_at hl 1 rfl) ?_
  refine va_tb hx hb hT va_S.rf hin (v := .int ((sbyt.getD i []).getD j.toNat 0)) (by rw [i_clamp hjR]) (by decide +kernel) ?_
  refine lv_sipush (n := 255) (v := 255) hx hb (by decide +kernel) (by decide) ?_
  refine lv_iand hx hb (by decide +kernel) ?_
  obtain ⟨e1, e2⟩ := s_chr i hi j.toNat (by omega)
  refine lv_i2c hx hb (by decide +kernel) e1 ?_
  exact W.zret (ty := .char) hx hb hr e2 (fun t ht _ => ⟨_, rfl, rfl, ht⟩) (fun _ q => by cases q) (by decide +kernel)
set_option maxRecDepth 20000 in
theorem met_lat (G : mG) (l : Launch) (adV : Nat → Nat) {i : Nat} (hi : i < 6) : Met l y_lat (wJ y_lat c_lat 1 (some .boolean)) (mroom 1 0 0) (va_Pc [.ref (gK G i)] (gX G adV)) (vp_Si (fun r => r = 1)) 0 0 (fun _ => False) := by
  refine Met.ofW (cc := c_lat) (maxL := 1) (ret := some .boolean) (by decide +kernel) rfl ?_
  intro p e s m args below meth c s₁ B hml hv
  obtain ⟨rfl, hG⟩ := hv
  have hx := B.exec
  have hb := B.bytes
  have hr := B.returns
  have hlocks := B.notSynchronized
  have hts0 := atoms_spec (ws := wJ y_lat c_lat 1 (some .boolean)) B.pre
  have hts : ∀ w ∈ mWS, w.before ([.ref (gK G i)] : List Value).toArray s = true := fun w hw => hts0 w (List.mem_cons_of_mem _ hw)
  have hown : s.vm.findClass "java/lang/String" = some m.cls := findClass_of_methodNamed B.named
  have hl := lv_entry [.ref (gK G i)] (n := 1) (Nat.le_of_ble_eq_true rfl)
  rw [lg_entry_eq]
  generalize (lg_sl [.ref (gK G i)] ++ List.replicate (1 - (lg_sl [.ref (gK G i)]).length) Slot.unset).toArray = ls at hl ⊢
  have hl : lv_has ls 1 [(0, .ref (gK G i))] := hl
  refine va_gets (own := "java/lang/String") (index := i_fz) (A := gA G) hx hb hG.1.2.2.2.2.2.1 va_S.rf hown (hts _ wJ_fz) (fun _ h => h) (by decide +kernel) ?_
  refine lv_if_eq (off := 14) (tgt := 17) hx hb (by decide +kernel) (by decide) (fun q => absurd q (by decide)) (fun _ => ?_)
  refine lv_aload_n (k := 0) hx hb (by decide +kernel) rfl (lv_at hl 0 rfl) ?_
  refine vk_getf (own := "java/lang/String") (ref := "java/lang/String") (index := i_fc) (A := gA G) hx hb (hG.2.1 i hi).2.1 va_S.rf hown (hts _ wJ_fc) (fun _ h => h) (by decide +kernel) ?_
  refine lv_if_ne (off := 7) (tgt := 17) hx hb (by decide +kernel) (by decide) (fun q => absurd rfl q) (fun _ => ?_)
  refine lv_iconst (n := 1) (v := 1) hx hb (by decide +kernel) (by decide) ?_
  refine lv_goto (off := 4) (tgt := 18) hx hb (by decide +kernel) (by decide) ?_
  exact W.zret (ty := .boolean) hx hb hr (by decide) (fun t ht _ => ⟨_, rfl, rfl, ht⟩) (fun _ q => by cases q) (by decide +kernel)
set_option maxRecDepth 20000 in
theorem met_coder (G : mG) (l : Launch) (adV : Nat → Nat) {i : Nat} (hi : i < 6) : Met l y_coder (wJ y_coder c_coder 1 (some .byte)) (mroom 1 0 0) (va_Pc [.ref (gK G i)] (gX G adV)) (vp_Si (fun r => r = 0)) 0 0 (fun _ => False) := by
  refine Met.ofW (cc := c_coder) (maxL := 1) (ret := some .byte) (by decide +kernel) rfl ?_
  intro p e s m args below meth c s₁ B hml hv
  obtain ⟨rfl, hG⟩ := hv
  have hx := B.exec
  have hb := B.bytes
  have hr := B.returns
  have hlocks := B.notSynchronized
  have hts0 := atoms_spec (ws := wJ y_coder c_coder 1 (some .byte)) B.pre
  have hts : ∀ w ∈ mWS, w.before ([.ref (gK G i)] : List Value).toArray s = true := fun w hw => hts0 w (List.mem_cons_of_mem _ hw)
  have hown : s.vm.findClass "java/lang/String" = some m.cls := findClass_of_methodNamed B.named
  have hl := lv_entry [.ref (gK G i)] (n := 1) (Nat.le_of_ble_eq_true rfl)
  rw [lg_entry_eq]
  generalize (lg_sl [.ref (gK G i)] ++ List.replicate (1 - (lg_sl [.ref (gK G i)]).length) Slot.unset).toArray = ls at hl ⊢
  have hl : lv_has ls 1 [(0, .ref (gK G i))] := hl
  refine va_gets (own := "java/lang/String") (index := i_fz) (A := gA G) hx hb hG.1.2.2.2.2.2.1 va_S.rf hown (hts _ wJ_fz) (fun _ h => h) (by decide +kernel) ?_
  refine lv_if_eq (off := 10) (tgt := 13) hx hb (by decide +kernel) (by decide) (fun q => absurd q (by decide)) (fun _ => ?_)
  refine lv_aload_n (k := 0) hx hb (by decide +kernel) rfl (lv_at hl 0 rfl) ?_
  refine vk_getf (own := "java/lang/String") (ref := "java/lang/String") (index := i_fc) (A := gA G) hx hb (hG.2.1 i hi).2.1 va_S.rf hown (hts _ wJ_fc) (fun _ h => h) (by decide +kernel) ?_
  refine lv_goto (off := 4) (tgt := 14) hx hb (by decide +kernel) (by decide) ?_
  exact W.zret (ty := .byte) hx hb hr (by decide) (fun t ht _ => ⟨_, rfl, rfl, ht⟩) (fun _ q => by cases q) (by decide +kernel)
set_option maxRecDepth 20000 in
theorem met_len (G : mG) (l : Launch) {i : Nat} (hi : i < 6) : Met l yLen wLen (mroom 4 0 0) (va_Pc [.ref (gK G i)] (fun U => gW G U U.heap)) (vp_Si (fun r => r = Int32.ofInt (((mstrs.getD i []).length : Nat) : Int))) 0 0 (fun _ => False) := by
  refine Met.ofW (cc := prog_10_method_54_code) (maxL := 1) (ret := some .int) (by decide +kernel) rfl ?_
  intro p e s m args below meth c s₁ B hml hv
  obtain ⟨rfl, hG0⟩ := hv
  obtain ⟨adV, hV⟩ := hG0.2.2.2.2.1
  have hG : gX G adV s := ⟨hG0, hV⟩
  have hx := B.exec
  have hb := B.bytes
  have hr := B.returns
  have hlocks := B.notSynchronized
  have hts0 := atoms_spec (ws := wLen) B.pre
  have hts : ∀ w ∈ mWS, w.before ([.ref (gK G i)] : List Value).toArray s = true := fun w hw => hts0 w (List.mem_cons_of_mem _ hw)
  have hown : s.vm.findClass "java/lang/String" = some m.cls := findClass_of_methodNamed B.named
  have hT := (hV.1 i hi).2.2.2
  obtain ⟨hsl, hs6⟩ := s_len i hi
  rw [hsl] at hT
  have hl := lv_entry [.ref (gK G i)] (n := 1) (Nat.le_of_ble_eq_true rfl)
  rw [lg_entry_eq]
  generalize (lg_sl [.ref (gK G i)] ++ List.replicate (1 - (lg_sl [.ref (gK G i)]).length) Slot.unset).toArray = ls at hl ⊢
  have hl : lv_has ls 1 [(0, .ref (gK G i))] := hl
  refine lv_aload_n (k := 0) hx hb (by decide +kernel) rfl (lv_at hl 0 rfl) ?_
  refine vk_getf (own := "java/lang/String") (ref := "java/lang/String") (index := i_fv) (A := gA G) hx hb (hV.1 i hi).2.2.1 va_S.rf hown (hts _ wJ_fv) (fun _ h => h) (by decide +kernel) ?_
  refine va_tlen hx hb hT va_S.rf (v := Int32.ofInt (((mstrs.getD i []).length : Nat) : Int)) (Int32.ofInt_eq_ofNat).symm (by decide +kernel) ?_
  refine lv_aload_n (k := 0) hx hb (by decide +kernel) rfl (lv_at hl 0 rfl) ?_
  have hcb : CallB (headSpec wLen (mroom 4 0 0)).room s ([.ref (gK G i)] : List Value).toArray "java/lang/String" i_mcoder y_coder c_coder 1 (some .byte) (wJ y_coder c_coder 1 (some .byte)) (mroom 1 0 0) 0 0 0 := callB_of 0 hts (wJ_good wJ_coderC) rfl rfl rfl (hts _ wJ_iS) (hts _ wJ_mcoder) ⟨by decide, by decide, by decide +kernel⟩ ⟨Nat.le_of_ble_eq_true rfl, Nat.le_of_ble_eq_true rfl⟩
  refine W_callSi (pc := 6) (va_runV (C := "java/lang/String") (b := gK G i) (As := []) (rest := [.int (Int32.ofInt (((mstrs.getD i []).length : Nat) : Int))]) ⟨hx, hb, hml, hown, hts⟩ (met_coder G l adV hi) ⟨hcb, hts _ wJ_coderI, hts _ wJ_coderV⟩ ⟨gX_blind, vk_recv hV hi va_S.rf, fun U hU hWm => ⟨rfl, gX_warm hWm hU hG⟩⟩ rfl rfl hl.1 rfl (lv_room (Nat.le_of_ble_eq_true rfl)) (show decode prog_10_method_54_code 6 = .ok (.invokevirtual i_mcoder, 3) by decide +kernel) ⟨Nat.le_of_ble_eq_true rfl, Nat.le_of_ble_eq_true rfl⟩) (fun z hz => ?_)
  subst hz
  refine lv_ishr hx hb (by decide +kernel) ?_
  rw [sb_shr0]
  exact W.iret hx hb hr (fun t ht _ => ⟨_, rfl, rfl, ht⟩) (fun _ q => by cases q) (by decide +kernel)
set_option maxRecDepth 20000 in
theorem met_chr (G : mG) (l : Launch) {i : Nat} (hi : i < 6) {j : Int} (h0 : 0 ≤ j) (h1 : j < ((mstrs.getD i []).length : Nat)) : Met l yChr wChr (mroom 4 0 0) (va_Pc [.ref (gK G i), .int (Int32.ofInt j)] (fun U => gW G U U.heap)) (vp_Si (fun r => r = Int32.ofInt (((mstrs.getD i []).getD j.toNat 0 : Nat) : Int))) 0 0 (fun _ => False) := by
  refine Met.ofW (cc := prog_10_method_56_code) (maxL := 2) (ret := some .char) (by decide +kernel) rfl ?_
  intro p e s m args below meth c s₁ B hml hv
  obtain ⟨rfl, hG0⟩ := hv
  obtain ⟨adV, hV⟩ := hG0.2.2.2.2.1
  have hG : gX G adV s := ⟨hG0, hV⟩
  have hx := B.exec
  have hb := B.bytes
  have hr := B.returns
  have hlocks := B.notSynchronized
  have hts0 := atoms_spec (ws := wChr) B.pre
  have hts : ∀ w ∈ mWS, w.before ([.ref (gK G i), .int (Int32.ofInt j)] : List Value).toArray s = true := fun w hw => hts0 w (List.mem_cons_of_mem _ hw)
  have hown : s.vm.findClass "java/lang/String" = some m.cls := findClass_of_methodNamed B.named
  have hl := lv_entry [.ref (gK G i), .int (Int32.ofInt j)] (n := 2) (Nat.le_of_ble_eq_true rfl)
  rw [lg_entry_eq]
  generalize (lg_sl [.ref (gK G i), .int (Int32.ofInt j)] ++ List.replicate (2 - (lg_sl [.ref (gK G i), .int (Int32.ofInt j)]).length) Slot.unset).toArray = ls at hl ⊢
  have hl : lv_has ls 2 [(0, .ref (gK G i)), (1, .int (Int32.ofInt j))] := hl
  refine lv_aload_n (k := 0) hx hb (by decide +kernel) rfl (lv_at hl 0 rfl) ?_
  have hcb : CallB (headSpec wChr (mroom 4 0 0)).room s ([.ref (gK G i), .int (Int32.ofInt j)] : List Value).toArray "java/lang/String" i_mlat y_lat c_lat 1 (some .boolean) (wJ y_lat c_lat 1 (some .boolean)) (mroom 1 0 0) 0 0 0 := callB_of 0 hts (wJ_good wJ_latC) rfl rfl rfl (hts _ wJ_iS) (hts _ wJ_mlat) ⟨by decide, by decide, by decide +kernel⟩ ⟨Nat.le_of_ble_eq_true rfl, Nat.le_of_ble_eq_true rfl⟩
  refine W_callSi (pc := 1) (va_runV (C := "java/lang/String") (b := gK G i) (As := []) (rest := []) ⟨hx, hb, hml, hown, hts⟩ (met_lat G l adV hi) ⟨hcb, hts _ wJ_latI, hts _ wJ_latV⟩ ⟨gX_blind, vk_recv hV hi va_S.rf, fun U hU hWm => ⟨rfl, gX_warm hWm hU hG⟩⟩ rfl rfl hl.1 rfl (lv_room (Nat.le_of_ble_eq_true rfl)) (show decode prog_10_method_56_code 1 = .ok (.invokevirtual i_mlat, 3) by decide +kernel) ⟨Nat.le_of_ble_eq_true rfl, Nat.le_of_ble_eq_true rfl⟩) (fun z hz => ?_)
  subst hz
  refine lv_if_eq (off := 12) (tgt := 16) hx hb (by decide +kernel) (by decide) (fun q => absurd q (by decide)) (fun _ => ?_)
  refine lv_aload_n (k := 0) hx hb (by decide +kernel) rfl (lv_at hl 0 rfl) ?_
  refine vk_getf (own := "java/lang/String") (ref := "java/lang/String") (index := i_fv) (A := gA G) hx hb (hV.1 i hi).2.2.1 va_S.rf hown (hts _ wJ_fv) (fun _ h => h) (by decide +kernel) ?_
  refine lv_iload_n (k := 1) hx hb (by decide +kernel) rfl (lv_at hl 1 rfl) ?_
  have hcb2 : CallB (headSpec wChr (mroom 4 0 0)).room s ([.ref (gK G i), .int (Int32.ofInt j)] : List Value).toArray "java/lang/String" i_ml1 y_l1 c_l1 2 (some .char) (wJ y_l1 c_l1 2 (some .char)) (mroom 3 0 0) 0 0 2 := callB_of 2 hts (wJ_good wJ_l1C) rfl rfl rfl (hts _ wJ_iL1) (hts _ wJ_ml1) ⟨by decide, by decide, by decide +kernel⟩ ⟨Nat.le_of_ble_eq_true rfl, Nat.le_of_ble_eq_true rfl⟩
  refine W_callSi (pc := 12) (va_runS (As := [.ref (adV i), .int (Int32.ofInt j)]) (rest := []) ⟨hx, hb, hml, hown, hts⟩ (met_l1 G l adV hi h0 h1) ⟨hcb2, hts _ wJ_l1S⟩ ⟨gX_blind, fun U hU hWm => ⟨rfl, gX_warm hWm hU hG⟩⟩ rfl rfl hl.1 rfl (lv_room (Nat.le_of_ble_eq_true rfl)) (show decode prog_10_method_56_code 12 = .ok (.invokestatic i_ml1, 3) by decide +kernel) ⟨Nat.le_of_ble_eq_true rfl, Nat.le_of_ble_eq_true rfl⟩) (fun z hz => ?_)
  subst hz
  obtain ⟨-, e2⟩ := s_chr i hi j.toNat (by omega)
  exact W.zret (ty := .char) hx hb hr e2 (fun t ht _ => ⟨_, rfl, rfl, ht⟩) (fun _ q => by cases q) (by decide +kernel)
theorem strMet_ok (G : mG) (l : Launch) : strMet G l := ⟨fun _ hi => met_len G l hi, fun _ hi _ h0 h1 => met_chr G l hi h0 h1⟩
end
