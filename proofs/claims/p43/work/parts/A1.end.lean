/-! THE LAW: its loop, what holds between two calls is kept -/
theorem u_I {y1 y2 : Nat} {as : List mVal} {M : mMem} (h : PairI y1 y2 as M) : ∃ v v2 m1 m2, mR3 10 y1 (vr 0 :: as) (S0, M) (some (vi v), (S0, m1)) ∧ mR3 10 y2 (vr 53 :: as) (S0, m1) (some (vi v2), (S0, m2)) ∧ Inv m2 := by
  obtain ⟨v, m1, m2, a, b, c⟩ := h
  exact ⟨v, v, m1, m2, a, b, c⟩
theorem u_L {y1 y2 : Nat} {as : List mVal} {M : mMem} (h : PairL y1 y2 as M) : ∃ v v2 m1 m2, mR3 10 y1 (vr 0 :: as) (S0, M) (some (vl v), (S0, m1)) ∧ mR3 10 y2 (vr 53 :: as) (S0, m1) (some (vl v2), (S0, m2)) ∧ Inv m2 := by
  obtain ⟨v, m1, m2, a, b, c⟩ := h
  exact ⟨v, v, m1, m2, a, b, c⟩
theorem law_all {L : Nat} {xs : Nat → Int} (hL : L ≤ 320) (hx : ∀ j, inR (xs j)) : lawP L xs := by
  intro K hK
  refine law_entry hK ?_
  have n5 : ∀ m : mMem, ∀ z : Int, (L : Int) - 5 < z → K 18 [(0, vs 0), (1, vr 0), (2, vr 53), (3, vi z)] [] (S0, m) := fun m z hz => w_18 hK z m (br_t (by rw [w32_s (by omega) (by omega)]; exact hz) (w_1478 hK m))
  have loop : ∀ (j : Nat) (z : Int) (m : mMem), Inv m → 0 ≤ z → (L : Int) ≤ z + 5 * j → K 18 [(0, vs 0), (1, vr 0), (2, vr 53), (3, vi z)] [] (S0, m) := by
    intro j
    induction j with
    | zero =>
      intro z m _ h0 h1
      exact n5 m z (by omega)
    | succ j ih =>
      intro z m hi h0 h1
      by_cases c : (L : Int) - 5 < z
      · exact n5 m z c
      · have h5 : z + 5 ≤ L := by omega
        have nx : ∀ m : mMem, Inv m → K 1472 [(0, vs 0), (1, vr 0), (2, vr 53), (3, vi z)] [] (S0, m) := fun m q => w_1472 hK z m (by rw [w32_s (by omega) (by omega)]; exact ih (z + 5) m q (by omega) (by omega))
        clear ih
        refine w_18 hK z m (br_f (by rw [w32_s (by omega) (by omega)]; exact c) (mIn_i h0 (by omega) ⟨⟨fun _ => ?_, fun _ => ?_, fun _ => ?_, fun _ => ?_, fun _ => ?_, fun _ => ?_, fun _ => ?_, fun _ => ?_, fun _ => ?_, fun _ => ?_, fun _ => ?_, fun _ => ?_, fun _ => ?_, fun _ => ?_, fun _ => ?_, fun _ => ?_, fun _ => ?_, fun _ => ?_, fun _ => ?_, fun _ => ?_, fun _ => ?_, fun _ => ?_, fun _ => ?_, fun _ => ?_, fun _ => ?_, fun _ => ?_, fun _ => ?_, fun _ => ?_, fun _ => ?_, fun _ => ?_, fun _ => ?_, fun _ => ?_, fun _ => ?_, fun _ => ?_, fun _ => ?_, fun _ => ?_, fun _ => ?_, fun _ => ?_, fun _ => ?_, fun _ => ?_, fun _ => ?_, fun _ => ?_, trivial⟩, fun _ => nx m hi⟩))
        · exact x_216 hK h0 h5 hL m (u_I (P_feed hi _)) nx
        · exact x_239 hK h0 h5 hL m (u_I (P_end hi _)) nx
        · exact x_262 hK h0 h5 hL m (u_I (P_text hi )) nx
        · exact x_275 hK h0 h5 hL m (u_I (P_fault hi )) nx
        · exact x_288 hK h0 h5 hL m (u_I (P_rule hi _)) nx
        · exact x_311 hK h0 h5 hL m (u_I (P_cell hi _ _)) nx
        · exact x_344 hK h0 h5 hL m (u_I (P_thread hi _)) nx
        · exact x_367 hK h0 h5 hL m (u_I (P_law hi _ _)) nx
        · exact x_400 hK h0 h5 hL m (u_I (P_stitch hi _ _)) nx
        · exact x_433 hK h0 h5 hL m (u_I (P_amend hi _ _ _)) nx
        · exact x_476 hK h0 h5 hL m (u_I (P_spool hi _ _)) nx
        · exact x_509 hK h0 h5 hL m (u_I (P_plan hi _ _ _)) nx
        · exact x_552 hK h0 h5 hL m (u_I (P_cut hi _)) nx
        · exact x_575 hK h0 h5 hL m (u_I (P_enact hi _ _ _ _)) nx
        · exact x_628 hK h0 h5 hL m (u_I (P_work hi _ _ _)) nx
        · exact x_671 hK h0 h5 hL m (u_I (P_unpick hi _ _)) nx
        · exact x_704 hK h0 h5 hL m (u_I (P_moth hi _ _)) nx
        · exact x_737 hK h0 h5 hL m (u_I (P_mend hi _ _)) nx
        · exact x_770 hK h0 h5 hL m (u_I (P_runs hi _)) nx
        · exact x_793 hK h0 h5 hL m (u_I (P_ahead hi _ _)) nx
        · exact x_826 hK h0 h5 hL m (u_I (P_best hi _)) nx
        · exact x_849 hK h0 h5 hL m (P_need hi _ _) nx
        · exact x_882 hK h0 h5 hL m (u_I (P_loose hi _ _)) nx
        · exact x_915 hK h0 h5 hL m (u_I (P_dye hi _)) nx
        · exact x_938 hK h0 h5 hL m (u_I (P_turn hi _)) nx
        · exact x_961 hK h0 h5 hL m (u_I (P_leave hi _)) nx
        · exact x_984 hK h0 h5 hL m (u_L (P_luck hi _ _ _)) nx
        · exact x_1027 hK h0 h5 hL m (u_L (P_mean hi _ _)) nx
        · exact x_1060 hK h0 h5 hL m (u_I (P_see hi _ _)) nx
        · exact x_1093 hK h0 h5 hL m (u_I (P_forget hi _)) nx
        · exact x_1116 hK h0 h5 hL m (u_I (P_fills hi )) nx
        · exact x_1129 hK h0 h5 hL m (u_I (P_shades hi _ _)) nx
        · exact x_1162 hK h0 h5 hL m (u_I (P_span hi _)) nx
        · exact x_1185 hK h0 h5 hL m (u_I (P_ask hi _)) nx
        · exact x_1208 hK h0 h5 hL m (u_I (P_drift hi _ _ _)) nx
        · exact x_1251 hK h0 h5 hL m (u_I (P_keep hi _)) nx
        · exact x_1274 hK h0 h5 hL m (u_I (P_back hi _)) nx
        · exact x_1297 hK h0 h5 hL m (u_I (P_sheet hi _ _ _)) nx
        · exact x_1340 hK h0 h5 hL m (u_I (P_lay hi _ _ _)) nx
        · exact x_1383 hK h0 h5 hL m (u_I (P_read hi _ _ _ _ (hx _))) nx
        · exact x_1436 hK h0 h5 hL m (u_I (P_torn hi )) nx
        · exact x_1449 hK h0 h5 hL m (P_count hi _) nx
  exact loop (L + 1) 0 M0 Inv0 (by omega) (by omega)
theorem whole_start {p : Program} {e : Env} {s : State} {m : MethodId} {below : List Frame} {meth : Method} {c : Code} (l : Launch) {b L : Nat} {xs : Nat → Int32} (hL : L ≤ 320) (C0 : lw_At p s m meth c b L xs) : W p l e room_1 s m #[Value.ref b] below meth c s.heap [] 0 0 (lw_Z below #[Value.ref b] s) (entryFrame m ([Value.ref b] : List Value).toArray 4) := by
  exact start_of l hL C0 (law_all hL (fun j => i_ti (xs j)))
set_option maxHeartbeats 4000000 in
theorem lw_walk (l : Launch) (b : Addr) (xs : List Int32) : MetFree l x (headSpec (Jvm.Cond.code x code maxLocals ret :: tables_1) room_1) (lw_P b xs) (fun _ _ _ _ _ => True) lw_Q := by
  refine MetFree.of_bodyS (code := code) (maxLocals := maxLocals) (ret := ret) (by decide) ?_ ?_
  · intro args s m h hn
    obtain ⟨meth, c, h1, h2, h3, h4, h5, h6, -, -⟩ := Cond.code_spec hn (atoms_spec (ws := Jvm.Cond.code x code maxLocals ret :: tables_1) h _ List.mem_cons_self)
    exact ⟨meth, c, h1, h2, h3, h4, h5, h6⟩
  · intro p e s m args below meth c s₁ B hml0 hP _
    obtain ⟨rfl, hx, hbd, hgv⟩ := hP
    obtain ⟨scr, harrAt, hlist, hof, hsmall⟩ := hx
    obtain ⟨hcb, hkn, -, -⟩ := State.arrayAt?_spec harrAt
    have hown : s.vm.findClass R_law = some m.cls := findClass_of_methodNamed B.named
    have hts0 : ∀ c ∈ (Jvm.Cond.code x code maxLocals ret :: tables_1), c.before #[Value.ref b] s = true := atoms_spec (ws := Jvm.Cond.code x code maxLocals ret :: tables_1) B.pre
    have hts : ∀ w ∈ lw_tbl, w.before #[Value.ref b] s = true := k2_hts_sels lw_privs (fun w hw => hts0 w (List.mem_cons_of_mem _ hw)) lw_privs_ok
    have hml : c.maxLocals = 4 := B.maxLocals_eq (hts0 _ List.mem_cons_self)
    have X₀ : Stand p l e room_1 s m #[Value.ref b] below meth c s₁ [] 0 0 := Stand.of_body B
    have hh0 : s₁.heap = s.heap := by rw [B.state]; rfl
    have hsz : scr.slots.size = xs.length := by rw [← Array.length_toList, hlist, List.length_map]
    have hval : ∀ j : Nat, j < xs.length → scr.slots[j]? = some (.int (xs.getD j 0)) := fun j hj => by
      rw [← Array.getElem?_toList, hlist]
      simp [hj]
    have hbl : b < s.heap.size := (Array.getElem?_eq_some_iff.mp hcb).1
    have hX : va_X b xs.length (fun j => xs.getD j 0) s s.heap := ⟨scr, hcb, hof, hkn, hsz, hval⟩
    have K : W p l e room_1 s m #[Value.ref b] below meth c s₁.heap [] 0 0 (lw_Z below #[Value.ref b] s) (entryFrame m ([Value.ref b] : List Value).toArray 4) := by
      rw [hh0]
      exact whole_start l hbd ⟨B.exec, B.bytes, B.returns, hml, hown, hts, hX, hbl, B.notSynchronized, hgv⟩
    obtain ⟨t, a1, o, b1, b2, b3⟩ := K s₁ rfl X₀
    exact ⟨t, o, a1, b1, b2, b3⟩
theorem lw_pre_spec {args : Array Value} {s : State} (h : (Jvm.Cond.and given_1 narrow_1).before args s = true) (hr : rest_1_c.before args s = true) : ∃ (b : Addr) (xs : List Int32), lw_P b xs args s := by
  have hs := flat_of_before _ h
  have hq := flat_of_before _ hr
  have hc : (Cond.count 1).before args s = true := hs _ (by decide +kernel)
  have harr : (Cond.arrayOf (.arg 0) .int).before args s = true := hs _ (by decide +kernel)
  have hle : (Cond.le (.length (.arg 0)) (.int 320)).before args s = true := hs _ (by decide +kernel)
  have hlen : (Cond.isInt (.length (.arg 0))).before args s = true := hq _ (by decide +kernel)
  have hall : (Cond.all (.arg 0) (.isInt (.elem (.arg 0) (.index 0)))).before args s = true := hq _ (by decide +kernel)
  obtain ⟨b, xs, hb, hx⟩ := State.ints_of_pre rfl harr hlen hall
  have hsm : xs.length < 2 ^ 31 := hx.choose_spec.2.2.2
  have hev : (Term.length (.arg 0)).eval args s none [] s = some (.int xs.length.toInt32) := hx.length_eval hb
  have hv := Cond.le_ints hev (show (Term.int 320).eval args s none [] s = some (.int 320) from rfl)
  have hd : xs.length.toInt32 ≤ 320 := by
    simpa [Cond.before, Cond.holds, hv] using hle
  have hN : xs.length ≤ 320 := (Int32.ofNat_le_ofNat hsm (by decide)).mp (show Int32.ofNat xs.length ≤ Int32.ofNat 320 from hd)
  exact ⟨b, xs, Cond.one_arg hc (show args[0]? = some (.ref b) from hb), hx, hN, h⟩
theorem lw_comes (l : Launch) : Comes l x (Jvm.Cond.code x code maxLocals ret :: tables_1) room_1 (fun tb e args s => Calls_1 tb e args s ∧ rest_1 tb e args s ∧ Pre_1 tb e args s)
    (fun _ _ args s o t => lw_Q args s o t) := by
  intro p e ha hc hk s m args below hf hfit hheap happ hpre
  obtain ⟨b, xs, hP⟩ := lw_pre_spec hpre.2.2 hpre.2.1
  obtain ⟨k, o, h1, h2, h3, hQ⟩ := lw_walk l b xs p e ha hc hk s m args below hf ((Spec.applies_iff_loose hf).mp happ).1 hP trivial
  exact ⟨k, o, h1, h2, h3, hQ⟩
theorem lw_frame {s t : State} {o : Outcome} {args : Array Value} (h : Framed s o t [] 600000 7302250) :
    Framed s o t (fieldLocs frame_1_writes args s ++ arrayLocs frame_1_arrays args s ++ staticLocs frame_1_statics s) 600000 7302250 := h
theorem lw_limb (L : Cond) (hL : ∀ (args : Array Value) (s t : State), L.after args s (.returned (some (.int 1))) t = true) :
    ArmFor flags0 classFile x code maxLocals ret World_1 tables_1 room_1 Calls_1 rest_1 Pre_1
      (fun tb e a s o t => postC L tb e a s o t ∧ Framed s o t (fieldLocs frame_1_writes a s ++ arrayLocs frame_1_arrays a s ++ staticLocs frame_1_statics s) 600000 7302250) := by
  intro l _ _ _ p e ha hc hk s m args below hf hfit hheap happ hpre
  obtain ⟨k, o, h1, h2, h3, rfl, hF⟩ := lw_comes l p e ha hc hk s m args below hf hfit hheap happ hpre
  exact ⟨k, _, h1, h2, h3, hL args s _, lw_frame hF⟩
theorem i_vc : Claimed_1_1 ∧ Claimed_1_2 := ⟨lw_limb limb_1_1 (fun args s t => by simp [limb_1_1, Cond.after, Cond.holds, Cond.value]), lw_limb limb_1_2 (fun args s t => Cond.after_iff.mpr (by
  first | (rw [show limb_1_2 = Cond.eq .result (.int 1) from rfl, Cond.eq_ints (x := 1) (y := 1) rfl rfl]; simp; done) | (simp [limb_1_2, Cond.value, Term.eval]; done)))⟩
