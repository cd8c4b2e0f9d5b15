/-! SOUNDNESS 8: a frame follows all its rows -/
section
variable {G : mG} {l : Launch} {own nL : Nat} {rt : Option FieldType} {ini : Bool} {cc : ByteArray} {d c0 s0 nd : Nat} {lim : Nat × Nat} {scr : Nat × (Nat → Int)} {p : Program} {e : Env} {R : Room} {s : State} {m : MethodId} {args : Array Value} {below : List Frame} {meth : Method} {c : Code} {Q : State → Prop}
theorem len_of {i : Instr} {n k : Nat} (h : (n == k) = true) : n = k := eq_of_beq h
theorem rcv_e {sh : mSh} {st : List mVal} {t : Nat} (h : rcvOK sh st [t] = true) : ∃ k n, st.head? = some (vr k) ∧ sh.1[k]? = some (t, n) := by
  unfold rcvOK at h
  split at h
  · rename_i k r
    split at h
    · rename_i t' n hq
      simp at h
      exact ⟨k, n, rfl, by rw [hq, h]⟩
    · cases h
  · cases h
set_option maxHeartbeats 4000000 in
theorem mV_rows (X : mXf G l own nL rt ini cc d c0 s0 lim scr p R s m args meth c) (hstr : strMet G l) (hnd : nd ≤ d + 1) {cal : mCal} {lb : List (Nat × List Nat)} {ret : Option mVal → mHp → Prop} (hcal : ∀ y as h r, cal y as h r → nNeed y ≤ d → mMet G l d y as h r)
    (hI : ∀ pc lv v h, decode cc pc = .ok (.ireturn, 1) → (rt = some .int ∨ (rt = some .boolean ∧ (v = 0 ∨ v = 1))) → ret (some (vi v)) h → mV G p l e R s m args below meth c Q nL c0 s0 pc lv [vi v] h)
    (hJ : ∀ pc lv v h, decode cc pc = .ok (.lreturn, 1) → rt = some .long → ret (some (vl v)) h → mV G p l e R s m args below meth c Q nL c0 s0 pc lv [vl v] h)
    (hN : ∀ pc lv h, decode cc pc = .ok (.return_, 1) → rt = none → ret none h → mV G p l e R s m args below meth c Q nL c0 s0 pc lv [] h) :
    ∀ (rows : List mRow) (pc : Nat) (lv : mLV) (st : List mVal) (h : mHp), bOK own cc nL rt ini nd pc rows = true → mrun cal lb lim scr ret (mV G p l e R s m args below meth c Q nL c0 s0) rows pc lv st h → mV G p l e R s m args below meth c Q nL c0 s0 pc lv st h := by
  intro rows
  induction rows with
  | nil => intro pc lv st h _ hr; exact V_jump hr
  | cons row rows ih =>
    intro pc lv st h hbk hr
    obtain ⟨ins, len, a, b, z, ts⟩ := row
    have hbk' : (decide (decode cc pc = .ok (ins, len)) && lenOK ins len && xOK own nL rt ini nd pc ins a b z ts && bOK own cc nL rt ini nd (pc + len) rows) = true := hbk
    simp only [Bool.and_eq_true, decide_eq_true_eq] at hbk'
    obtain ⟨⟨⟨hd, hlen⟩, hxk⟩, hrest⟩ := hbk'
    obtain ⟨⟨hx, hb, hml, hown, hts⟩, hG, -⟩ := id X
    cases ins with
    | iconst n =>
      have hlen : len = 1 := eq_of_beq hlen
      subst hlen
      have hk := ih _ _ _ _ hrest hr
      have hxk : (decide (-128 ≤ n) && decide (n < 128)) = true := hxk
      simp only [Bool.and_eq_true, decide_eq_true_eq] at hxk
      intro h1 h2 h3 H locs ls hg hS hl
      exact lv_iconst hx hb hd rfl (hk h1 (okc (by show inR n; unfold inR; omega) h2) h3 H locs ls hg hS hl)
    | bipush n =>
      have hlen : len = 2 := eq_of_beq hlen
      subst hlen
      have hk := ih _ _ _ _ hrest hr
      have hxk : (decide (-128 ≤ n) && decide (n < 128)) = true := hxk
      simp only [Bool.and_eq_true, decide_eq_true_eq] at hxk
      intro h1 h2 h3 H locs ls hg hS hl
      have hin : inR n := by unfold inR; omega
      refine lv_bipush hx hb hd (v := Int32.ofInt n) ?_ (hk h1 (okc hin h2) h3 H locs ls hg hS hl)
      rw [← Int32.toInt_inj, Int8.toInt_toInt32, i_to hin, Int8.toInt_ofInt_of_le (by omega) (by omega)]
    | sipush n =>
      have hlen : len = 3 := eq_of_beq hlen
      subst hlen
      have hk := ih _ _ _ _ hrest hr
      have hxk : (decide (-32768 ≤ n) && decide (n < 32768)) = true := hxk
      simp only [Bool.and_eq_true, decide_eq_true_eq] at hxk
      intro h1 h2 h3 H locs ls hg hS hl
      have hin : inR n := by unfold inR; omega
      refine lv_sipush hx hb hd (v := Int32.ofInt n) ?_ (hk h1 (okc hin h2) h3 H locs ls hg hS hl)
      rw [← Int32.toInt_inj, Int16.toInt_toInt32, i_to hin, Int16.toInt_ofInt_of_le (by omega) (by omega)]
    | ldc idx =>
      have hlen : len = 2 := eq_of_beq hlen
      subst hlen
      cases hb0 : (b == 0) with
      | true =>
        have hr' : (bif b == 0 then mrun cal lb lim scr ret (mV G p l e R s m args below meth c Q nL c0 s0) rows (pc + 2) lv (vi z :: st) h else mrun cal lb lim scr ret (mV G p l e R s m args below meth c Q nL c0 s0) rows (pc + 2) lv (vs (a + 1) :: st) h) := hr
        have hxk' : (bif b == 0 then lkI own idx z else (own == 4 && Nat.blt a 6 && lSt.getD a 0 == idx)) = true := hxk
        rw [hb0] at hr' hxk'
        have hk := ih _ _ _ _ hrest hr'
        have hxk2 : lkI own idx z = true := hxk'
        unfold lkI at hxk2
        split at hxk2
        · rename_i y' pos hq
          have e3 := (eq_of_beq hxk2).symm
          subst e3
          have hm := lCi_w _ (lk_mem hq)
          intro h1 h2 h3 H locs ls hg hS hl
          exact lv_ldc (own := nR own) hx hb hown (hts _ (wAt_in hm.1 rfl)) hd (hk h1 (okc hm.2 h2) h3 H locs ls hg hS hl)
        · cases hxk2
      | false =>
        have hr' : (bif b == 0 then mrun cal lb lim scr ret (mV G p l e R s m args below meth c Q nL c0 s0) rows (pc + 2) lv (vi z :: st) h else mrun cal lb lim scr ret (mV G p l e R s m args below meth c Q nL c0 s0) rows (pc + 2) lv (vs (a + 1) :: st) h) := hr
        have hxk' : (bif b == 0 then lkI own idx z else (own == 4 && Nat.blt a 6 && lSt.getD a 0 == idx)) = true := hxk
        rw [hb0] at hr' hxk'
        have hk := ih _ _ _ _ hrest hr'
        have hxk2 : (own == 4 && Nat.blt a 6 && lSt.getD a 0 == idx) = true := hxk'
        simp only [Bool.and_eq_true, Nat.blt_eq] at hxk2
        have e3 := (eq_of_beq hxk2.1.1)
        have e4 := (eq_of_beq hxk2.2).symm
        subst e3; subst e4
        intro h1 h2 h3 H locs ls hg hS hl
        exact va_ldcS (own := nR 4) hx hb hown (hG.2.2.2.1 a hxk2.1.2) hd (hk h1 (okc hxk2.1.2 h2) h3 H locs ls hg hS hl)
    | ldc2_w idx =>
      have hlen : len = 3 := eq_of_beq hlen
      subst hlen
      have hk := ih _ _ _ _ hrest hr
      have hxk2 : lkL own idx z = true := hxk
      unfold lkL at hxk2
      split at hxk2
      · rename_i y' pos hq
        have e3 := (eq_of_beq hxk2).symm
        subst e3
        obtain ⟨v, hw, hv, hz⟩ := lCL_w _ (lk_mem hq)
        intro h1 h2 h3 H locs ls hg hS hl
        refine lv_ldc2 (own := nR own) hx hb hown (hts _ (wAt_in hw rfl)) hd ?_
        rw [hv]
        exact hk h1 (okc hz h2) h3 H locs ls hg hS hl
      · cases hxk2
    | lconst n =>
      have hlen : len = 1 := eq_of_beq hlen
      subst hlen
      have hk := ih _ _ _ _ hrest hr
      intro h1 h2 h3 H locs ls hg hS hl
      refine lv_lconst hx hb hd (v := Int64.ofInt ((n.val : Nat) : Int)) ?_ (hk h1 (okc (by show inL _; unfold inL; omega) h2) h3 H locs ls hg hS hl)
      rw [Int64.ofInt_eq_ofNat]
    | iload_n i =>
      have hlen : len = 1 := eq_of_beq hlen
      subst hlen
      obtain ⟨v, hv, hr⟩ := lgetI_e hr
      have hk := ih _ _ _ _ hrest hr
      intro h1 h2 h3 H locs ls hg hS hl
      exact lv_iload_n hx hb hd rfl (lv_of hl hv) (hk h1 (okc (h1 _ hv) h2) h3 H locs ls hg hS hl)
    | iload i =>
      have hlen : len = 2 := eq_of_beq hlen
      subst hlen
      obtain ⟨v, hv, hr⟩ := lgetI_e hr
      have hk := ih _ _ _ _ hrest hr
      intro h1 h2 h3 H locs ls hg hS hl
      exact lv_iload hx hb hd (lv_of hl hv) (hk h1 (okc (h1 _ hv) h2) h3 H locs ls hg hS hl)
    | lload_n i =>
      have hlen : len = 1 := eq_of_beq hlen
      subst hlen
      obtain ⟨v, hv, hr⟩ := lgetL_e hr
      have hk := ih _ _ _ _ hrest hr
      intro h1 h2 h3 H locs ls hg hS hl
      exact lv_lload_n hx hb hd rfl (lv_of hl hv) (hk h1 (okc (h1 _ hv) h2) h3 H locs ls hg hS hl)
    | lload i =>
      have hlen : len = 2 := eq_of_beq hlen
      subst hlen
      obtain ⟨v, hv, hr⟩ := lgetL_e hr
      have hk := ih _ _ _ _ hrest hr
      intro h1 h2 h3 H locs ls hg hS hl
      exact lv_lload hx hb hd (lv_of hl hv) (hk h1 (okc (h1 _ hv) h2) h3 H locs ls hg hS hl)
    | aload_n i =>
      have hlen : len = 1 := eq_of_beq hlen
      subst hlen
      obtain ⟨v, hv, hr⟩ := lgetA_e hr
      have hk := ih _ _ _ _ hrest hr
      intro h1 h2 h3 H locs ls hg hS hl
      have hk2 := hk h1 (okc (h1 _ hv) h2) h3 H locs ls hg hS hl
      have hat := lv_of hl hv
      obtain ⟨x, ex⟩ := toV_A G v
      rw [List.map_cons, ex] at hk2
      rw [ex] at hat
      exact lv_aload_n hx hb hd rfl hat hk2
    | aload i =>
      have hlen : len = 2 := eq_of_beq hlen
      subst hlen
      obtain ⟨v, hv, hr⟩ := lgetA_e hr
      have hk := ih _ _ _ _ hrest hr
      intro h1 h2 h3 H locs ls hg hS hl
      have hk2 := hk h1 (okc (h1 _ hv) h2) h3 H locs ls hg hS hl
      have hat := lv_of hl hv
      obtain ⟨x, ex⟩ := toV_A G v
      rw [List.map_cons, ex] at hk2
      rw [ex] at hat
      exact lv_aload hx hb hd hat hk2
    | istore_n i =>
      have hlen : len = 1 := eq_of_beq hlen
      subst hlen
      obtain ⟨v, r, rfl, hr⟩ := mI_e hr
      have hk := ih _ _ _ _ hrest hr
      have hxk : i.val < nL := by simpa [Nat.blt_eq] using (show Nat.blt i.val nL = true from hxk)
      intro h1 h2 h3 H locs ls hg hS hl
      exact lv_istore_n hx hb hd rfl hl hxk (tLV_lset G i.val (vi v) lv) (fun ls hl => hk (lset_ok (okt h2).1 h1) (okt h2).2 h3 H locs ls hg hS hl)
    | istore i =>
      have hlen : len = 2 := eq_of_beq hlen
      subst hlen
      obtain ⟨v, r, rfl, hr⟩ := mI_e hr
      have hk := ih _ _ _ _ hrest hr
      have hxk : i < nL := by simpa [Nat.blt_eq] using (show Nat.blt i nL = true from hxk)
      intro h1 h2 h3 H locs ls hg hS hl
      exact lv_istore hx hb hd hl hxk (tLV_lset G i (vi v) lv) (fun ls hl => hk (lset_ok (okt h2).1 h1) (okt h2).2 h3 H locs ls hg hS hl)
    | astore_n i =>
      have hlen : len = 1 := eq_of_beq hlen
      subst hlen
      obtain ⟨v, r, rfl, hr⟩ := mR_e hr
      have hk := ih _ _ _ _ hrest hr
      have hxk : i.val < nL := by simpa [Nat.blt_eq] using (show Nat.blt i.val nL = true from hxk)
      intro h1 h2 h3 H locs ls hg hS hl
      exact lv_astore_n hx hb hd rfl hl hxk (tLV_lset G i.val (vr v) lv) (fun ls hl => hk (lset_ok (okt h2).1 h1) (okt h2).2 h3 H locs ls hg hS hl)
    | astore i =>
      have hlen : len = 2 := eq_of_beq hlen
      subst hlen
      obtain ⟨v, r, rfl, hr⟩ := mR_e hr
      have hk := ih _ _ _ _ hrest hr
      have hxk : i < nL := by simpa [Nat.blt_eq] using (show Nat.blt i nL = true from hxk)
      intro h1 h2 h3 H locs ls hg hS hl
      exact lv_astore hx hb hd hl hxk (tLV_lset G i (vr v) lv) (fun ls hl => hk (lset_ok (okt h2).1 h1) (okt h2).2 h3 H locs ls hg hS hl)
    | lstore_n i =>
      have hlen : len = 1 := eq_of_beq hlen
      subst hlen
      obtain ⟨v, r, rfl, hr⟩ := mL_e hr
      have hk := ih _ _ _ _ hrest hr
      have hxk : i.val + 1 < nL := by simpa [Nat.blt_eq] using (show Nat.blt (i.val + 1) nL = true from hxk)
      intro h1 h2 h3 H locs ls hg hS hl
      exact lv_lstore_n hx hb hd rfl hl hxk (tLV_lset2 G i.val (vl v) lv) (fun ls hl => hk (lset2_ok (okt h2).1 h1) (okt h2).2 h3 H locs ls hg hS hl)
    | lstore i =>
      have hlen : len = 2 := eq_of_beq hlen
      subst hlen
      obtain ⟨v, r, rfl, hr⟩ := mL_e hr
      have hk := ih _ _ _ _ hrest hr
      have hxk : i + 1 < nL := by simpa [Nat.blt_eq] using (show Nat.blt (i + 1) nL = true from hxk)
      intro h1 h2 h3 H locs ls hg hS hl
      exact lv_lstore hx hb hd hl hxk (tLV_lset2 G i (vl v) lv) (fun ls hl => hk (lset2_ok (okt h2).1 h1) (okt h2).2 h3 H locs ls hg hS hl)
    | iinc i n =>
      have hlen : len = 3 := eq_of_beq hlen
      subst hlen
      obtain ⟨v, hv, hr⟩ := lgetI_e hr
      have hk := ih _ _ _ _ hrest hr
      have hxk : (Nat.blt i nL && decide (-128 ≤ n) && decide (n < 128)) = true := hxk
      simp only [Bool.and_eq_true, decide_eq_true_eq, Nat.blt_eq] at hxk
      intro h1 h2 h3 H locs ls hg hS hl
      obtain ⟨k, hkk⟩ := lv_idx (G := G) hv
      exact lv_iinc hx hb hd hl hkk (i_add v n) hxk.1.1 (tLV_lset G i (vi (w32 (v + n))) lv) (fun ls hl => hk (lset_ok (w32_in _) h1) h2 h3 H locs ls hg hS hl)
    | iadd =>
      have hlen : len = 1 := eq_of_beq hlen
      subst hlen
      obtain ⟨y, r, rfl, hr⟩ := mI_e hr
      obtain ⟨x, r, rfl, hr⟩ := mI_e hr
      have hk := ih _ _ _ _ hrest hr
      intro h1 h2 h3 H locs ls hg hS hl
      refine lv_iadd hx hb hd ?_
      rw [i_add]
      exact hk h1 (okc (w32_in _) (okt (okt h2).2).2) h3 H locs ls hg hS hl
    | isub =>
      have hlen : len = 1 := eq_of_beq hlen
      subst hlen
      obtain ⟨y, r, rfl, hr⟩ := mI_e hr
      obtain ⟨x, r, rfl, hr⟩ := mI_e hr
      have hk := ih _ _ _ _ hrest hr
      intro h1 h2 h3 H locs ls hg hS hl
      refine lv_isub hx hb hd ?_
      rw [i_sub]
      exact hk h1 (okc (w32_in _) (okt (okt h2).2).2) h3 H locs ls hg hS hl
    | imul =>
      have hlen : len = 1 := eq_of_beq hlen
      subst hlen
      obtain ⟨y, r, rfl, hr⟩ := mI_e hr
      obtain ⟨x, r, rfl, hr⟩ := mI_e hr
      have hk := ih _ _ _ _ hrest hr
      intro h1 h2 h3 H locs ls hg hS hl
      refine lv_imul hx hb hd ?_
      rw [i_mul]
      exact hk h1 (okc (w32_in _) (okt (okt h2).2).2) h3 H locs ls hg hS hl
    | idiv =>
      have hlen : len = 1 := eq_of_beq hlen
      subst hlen
      obtain ⟨y, r, rfl, hr⟩ := mI_e hr
      obtain ⟨x, r, rfl, hr⟩ := mI_e hr
      obtain ⟨hne, hr⟩ := mB_e hr
      have hne : ¬ y = 0 := by simpa using hne
      have hk := ih _ _ _ _ hrest hr
      intro h1 h2 h3 H locs ls hg hS hl
      refine lv_idiv hx hb hd (fun q => hne (by rw [show (0 : Int32) = Int32.ofInt 0 from rfl, i_eq (okt h2).1 inR_0] at q; exact q)) ?_
      rw [i_div (okt (okt h2).2).1 (okt h2).1]
      exact hk h1 (okc (jdiv_in _ _) (okt (okt h2).2).2) h3 H locs ls hg hS hl
    | irem =>
      have hlen : len = 1 := eq_of_beq hlen
      subst hlen
      obtain ⟨y, r, rfl, hr⟩ := mI_e hr
      obtain ⟨x, r, rfl, hr⟩ := mI_e hr
      obtain ⟨hne, hr⟩ := mB_e hr
      have hne : ¬ y = 0 := by simpa using hne
      have hk := ih _ _ _ _ hrest hr
      intro h1 h2 h3 H locs ls hg hS hl
      refine lv_irem hx hb hd (fun q => hne (by rw [show (0 : Int32) = Int32.ofInt 0 from rfl, i_eq (okt h2).1 inR_0] at q; exact q)) ?_
      rw [i_rem (okt (okt h2).2).1 (okt h2).1]
      exact hk h1 (okc (jrem_in (okt (okt h2).2).1) (okt (okt h2).2).2) h3 H locs ls hg hS hl
    | iand =>
      have hlen : len = 1 := eq_of_beq hlen
      subst hlen
      obtain ⟨y, r, rfl, hr⟩ := mI_e hr
      obtain ⟨x, r, rfl, hr⟩ := mI_e hr
      have hk := ih _ _ _ _ hrest hr
      intro h1 h2 h3 H locs ls hg hS hl
      refine lv_iand hx hb hd ?_
      rw [i_and]
      exact hk h1 (okc (jand_in _ _) (okt (okt h2).2).2) h3 H locs ls hg hS hl
    | ior =>
      have hlen : len = 1 := eq_of_beq hlen
      subst hlen
      obtain ⟨y, r, rfl, hr⟩ := mI_e hr
      obtain ⟨x, r, rfl, hr⟩ := mI_e hr
      have hk := ih _ _ _ _ hrest hr
      intro h1 h2 h3 H locs ls hg hS hl
      refine lv_ior hx hb hd ?_
      rw [i_or]
      exact hk h1 (okc (jor_in _ _) (okt (okt h2).2).2) h3 H locs ls hg hS hl
    | ishl =>
      have hlen : len = 1 := eq_of_beq hlen
      subst hlen
      obtain ⟨y, r, rfl, hr⟩ := mI_e hr
      obtain ⟨x, r, rfl, hr⟩ := mI_e hr
      have hk := ih _ _ _ _ hrest hr
      intro h1 h2 h3 H locs ls hg hS hl
      refine lv_ishl hx hb hd ?_
      rw [i_shl]
      exact hk h1 (okc (jshl_in _ _) (okt (okt h2).2).2) h3 H locs ls hg hS hl
    | ishr =>
      have hlen : len = 1 := eq_of_beq hlen
      subst hlen
      obtain ⟨y, r, rfl, hr⟩ := mI_e hr
      obtain ⟨x, r, rfl, hr⟩ := mI_e hr
      have hk := ih _ _ _ _ hrest hr
      intro h1 h2 h3 H locs ls hg hS hl
      refine lv_ishr hx hb hd ?_
      rw [i_shr]
      exact hk h1 (okc (jshr_in _ _) (okt (okt h2).2).2) h3 H locs ls hg hS hl
    | iushr =>
      have hlen : len = 1 := eq_of_beq hlen
      subst hlen
      obtain ⟨y, r, rfl, hr⟩ := mI_e hr
      obtain ⟨x, r, rfl, hr⟩ := mI_e hr
      have hk := ih _ _ _ _ hrest hr
      intro h1 h2 h3 H locs ls hg hS hl
      exact lv_iushr hx hb hd (i_ushr x y) (hk h1 (okc (jushr_in _ _) (okt (okt h2).2).2) h3 H locs ls hg hS hl)
    | ladd =>
      have hlen : len = 1 := eq_of_beq hlen
      subst hlen
      obtain ⟨y, r, rfl, hr⟩ := mL_e hr
      obtain ⟨x, r, rfl, hr⟩ := mL_e hr
      have hk := ih _ _ _ _ hrest hr
      intro h1 h2 h3 H locs ls hg hS hl
      refine lv_ladd hx hb hd ?_
      rw [l_add]
      exact hk h1 (okc (w64_in _) (okt (okt h2).2).2) h3 H locs ls hg hS hl
    | lmul =>
      have hlen : len = 1 := eq_of_beq hlen
      subst hlen
      obtain ⟨y, r, rfl, hr⟩ := mL_e hr
      obtain ⟨x, r, rfl, hr⟩ := mL_e hr
      have hk := ih _ _ _ _ hrest hr
      intro h1 h2 h3 H locs ls hg hS hl
      refine lv_lmul hx hb hd ?_
      rw [l_mul]
      exact hk h1 (okc (w64_in _) (okt (okt h2).2).2) h3 H locs ls hg hS hl
    | ldiv =>
      have hlen : len = 1 := eq_of_beq hlen
      subst hlen
      obtain ⟨y, r, rfl, hr⟩ := mL_e hr
      obtain ⟨x, r, rfl, hr⟩ := mL_e hr
      obtain ⟨hne, hr⟩ := hr
      have hk := ih _ _ _ _ hrest hr
      intro h1 h2 h3 H locs ls hg hS hl
      refine lv_ldiv hx hb hd (fun q => hne (by rw [show (0 : Int64) = Int64.ofInt 0 from rfl, l_eq (okt h2).1 inL_0] at q; exact q)) ?_
      rw [l_div (okt (okt h2).2).1 (okt h2).1]
      exact hk h1 (okc (jldiv_in _ _) (okt (okt h2).2).2) h3 H locs ls hg hS hl
    | lrem =>
      have hlen : len = 1 := eq_of_beq hlen
      subst hlen
      obtain ⟨y, r, rfl, hr⟩ := mL_e hr
      obtain ⟨x, r, rfl, hr⟩ := mL_e hr
      obtain ⟨hne, hr⟩ := hr
      have hk := ih _ _ _ _ hrest hr
      intro h1 h2 h3 H locs ls hg hS hl
      refine lv_lrem hx hb hd (fun q => hne (by rw [show (0 : Int64) = Int64.ofInt 0 from rfl, l_eq (okt h2).1 inL_0] at q; exact q)) ?_
      rw [l_rem (okt (okt h2).2).1 (okt h2).1]
      exact hk h1 (okc (jlrem_in (okt (okt h2).2).1) (okt (okt h2).2).2) h3 H locs ls hg hS hl
    | lcmp =>
      have hlen : len = 1 := eq_of_beq hlen
      subst hlen
      obtain ⟨y, r, rfl, hr⟩ := mL_e hr
      obtain ⟨x, r, rfl, hr⟩ := mL_e hr
      have hk := ih _ _ _ _ hrest hr
      intro h1 h2 h3 H locs ls hg hS hl
      refine W.lcmp hx hb hd ?_
      rw [i_cmp (okt (okt h2).2).1 (okt h2).1]
      exact hk h1 (okc (jlcmp_in _ _) (okt (okt h2).2).2) h3 H locs ls hg hS hl
    | ineg =>
      have hlen : len = 1 := eq_of_beq hlen
      subst hlen
      obtain ⟨x, r, rfl, hr⟩ := mI_e hr
      have hk := ih _ _ _ _ hrest hr
      intro h1 h2 h3 H locs ls hg hS hl
      refine lv_ineg hx hb hd ?_
      rw [i_neg]
      exact hk h1 (okc (w32_in _) (okt h2).2) h3 H locs ls hg hS hl
    | i2l =>
      have hlen : len = 1 := eq_of_beq hlen
      subst hlen
      obtain ⟨x, r, rfl, hr⟩ := mI_e hr
      have hk := ih _ _ _ _ hrest hr
      intro h1 h2 h3 H locs ls hg hS hl
      exact lv_i2l hx hb hd (i_i2l (okt h2).1) (hk h1 (okc (inR_L (okt h2).1) (okt h2).2) h3 H locs ls hg hS hl)
    | i2b =>
      have hlen : len = 1 := eq_of_beq hlen
      subst hlen
      obtain ⟨x, r, rfl, hr⟩ := mI_e hr
      have hk := ih _ _ _ _ hrest hr
      intro h1 h2 h3 H locs ls hg hS hl
      exact lv_i2b hx hb hd (i_i2b (okt h2).1) (hk h1 (okc (w8_in _) (okt h2).2) h3 H locs ls hg hS hl)
    | i2s =>
      have hlen : len = 1 := eq_of_beq hlen
      subst hlen
      obtain ⟨x, r, rfl, hr⟩ := mI_e hr
      have hk := ih _ _ _ _ hrest hr
      intro h1 h2 h3 H locs ls hg hS hl
      exact lv_i2s hx hb hd (i_i2s (okt h2).1) (hk h1 (okc (w16_in _) (okt h2).2) h3 H locs ls hg hS hl)
    | dup =>
      have hlen : len = 1 := eq_of_beq hlen
      subst hlen
      obtain ⟨x, r, rfl, hr⟩ := mA_e hr
      obtain ⟨hc1, hr⟩ := mB_e hr
      have hk := ih _ _ _ _ hrest hr
      intro h1 h2 h3 H locs ls hg hS hl
      exact lv_dup hx hb hd (by rw [toV_cat]; exact eq_of_beq hc1) (hk h1 (okc (okt h2).1 h2) h3 H locs ls hg hS hl)
    | dup2 =>
      have hlen : len = 1 := eq_of_beq hlen
      subst hlen
      obtain ⟨y, r, rfl, hr⟩ := mA_e hr
      obtain ⟨x, r, rfl, hr⟩ := mA_e hr
      obtain ⟨hc1, hr⟩ := mB_e hr
      rw [Bool.and_eq_true] at hc1
      have hk := ih _ _ _ _ hrest hr
      intro h1 h2 h3 H locs ls hg hS hl
      exact lv_dup2_11 hx hb hd (by rw [toV_cat]; exact eq_of_beq hc1.2) (by rw [toV_cat]; exact eq_of_beq hc1.1) (hk h1 (okc (okt h2).1 (okc (okt (okt h2).2).1 h2)) h3 H locs ls hg hS hl)
    | pop =>
      have hlen : len = 1 := eq_of_beq hlen
      subst hlen
      obtain ⟨x, r, rfl, hr⟩ := mA_e hr
      obtain ⟨hc1, hr⟩ := mB_e hr
      have hk := ih _ _ _ _ hrest hr
      intro h1 h2 h3 H locs ls hg hS hl
      exact lv_pop hx hb hd (by rw [toV_cat]; exact eq_of_beq hc1) (hk h1 (okt h2).2 h3 H locs ls hg hS hl)
    | pop2 =>
      have hlen : len = 1 := eq_of_beq hlen
      subst hlen
      obtain ⟨x, r, rfl, hr⟩ := mA_e hr
      obtain ⟨hc1, hr⟩ := mB_e hr
      have hk := ih _ _ _ _ hrest hr
      intro h1 h2 h3 H locs ls hg hS hl
      exact lv_pop2_2 hx hb hd (by rw [toV_cat]; exact eq_of_beq hc1) (hk h1 (okt h2).2 h3 H locs ls hg hS hl)
    | goto off =>
      have hxk : (pc : Int) + off = (a : Nat) := of_decide_eq_true hxk
      have hlen : len = 3 := eq_of_beq hlen
      subst hlen
      intro h1 h2 h3 H locs ls hg hS hl
      exact lv_goto hx hb hd hxk (V_jump (show mV G p l e R s m args below meth c Q nL c0 s0 a (lpick lb a lv) st h from hr) h1 h2 h3 H locs ls hg hS hl)
    | ifCond cd off =>
      have hjm : (pc : Int) + off = (a : Nat) := of_decide_eq_true hxk
      have hlen : len = 3 := eq_of_beq hlen
      subst hlen
      obtain ⟨x, r, rfl, hr⟩ := mI_e hr
      have hr1 : mcmp cd x 0 → mV G p l e R s m args below meth c Q nL c0 s0 a lv r h := fun q => V_jump (hr.1 q)
      have hr2 : ¬ mcmp cd x 0 → mV G p l e R s m args below meth c Q nL c0 s0 (pc + 3) lv r h := fun q => ih _ _ _ _ hrest (hr.2 q)
      intro h1 h2 h3 H locs ls hg hS hl
      have hxx : inR x := (okt h2).1
      have e0 : (0 : Int32) = Int32.ofInt 0 := rfl
      cases cd with
      | eq => exact lv_if_eq hx hb hd hjm (fun q => hr1 (by rw [e0, i_eq hxx inR_0] at q; exact q) h1 (okt h2).2 h3 H locs ls hg hS hl) (fun q => hr2 (by rw [e0, i_eq hxx inR_0] at q; exact q) h1 (okt h2).2 h3 H locs ls hg hS hl)
      | ne => exact lv_if_ne hx hb hd hjm (fun q => hr1 (by rw [e0, i_eq hxx inR_0] at q; exact q) h1 (okt h2).2 h3 H locs ls hg hS hl) (fun q => hr2 (by rw [e0, i_eq hxx inR_0] at q; exact fun w => w q) h1 (okt h2).2 h3 H locs ls hg hS hl)
      | lt => exact lv_if_lt hx hb hd hjm (fun q => hr1 (by rw [e0, i_lt hxx inR_0] at q; exact q) h1 (okt h2).2 h3 H locs ls hg hS hl) (fun q => hr2 (by rw [e0, i_lt hxx inR_0] at q; exact q) h1 (okt h2).2 h3 H locs ls hg hS hl)
      | ge => exact lv_if_ge hx hb hd hjm (fun q => hr1 (by rw [e0, i_le inR_0 hxx] at q; exact q) h1 (okt h2).2 h3 H locs ls hg hS hl) (fun q => hr2 (by rw [e0, i_le inR_0 hxx] at q; exact q) h1 (okt h2).2 h3 H locs ls hg hS hl)
      | gt => exact lv_if_gt hx hb hd hjm (fun q => hr1 (by rw [e0, i_lt inR_0 hxx] at q; exact q) h1 (okt h2).2 h3 H locs ls hg hS hl) (fun q => hr2 (by rw [e0, i_lt inR_0 hxx] at q; exact q) h1 (okt h2).2 h3 H locs ls hg hS hl)
      | le => exact lv_if_le hx hb hd hjm (fun q => hr1 (by rw [e0, i_le hxx inR_0] at q; exact q) h1 (okt h2).2 h3 H locs ls hg hS hl) (fun q => hr2 (by rw [e0, i_le hxx inR_0] at q; exact q) h1 (okt h2).2 h3 H locs ls hg hS hl)
    | if_icmp cd off =>
      have hjm : (pc : Int) + off = (a : Nat) := of_decide_eq_true hxk
      have hlen : len = 3 := eq_of_beq hlen
      subst hlen
      obtain ⟨y, r, rfl, hr⟩ := mI_e hr
      obtain ⟨x, r, rfl, hr⟩ := mI_e hr
      have hr1 : mcmp cd x y → mV G p l e R s m args below meth c Q nL c0 s0 a lv r h := fun q => V_jump (hr.1 q)
      have hr2 : ¬ mcmp cd x y → mV G p l e R s m args below meth c Q nL c0 s0 (pc + 3) lv r h := fun q => ih _ _ _ _ hrest (hr.2 q)
      intro h1 h2 h3 H locs ls hg hS hl
      have hyy : inR y := (okt h2).1
      have hxx : inR x := (okt (okt h2).2).1
      have h2 := (okt (okt h2).2).2
      cases cd with
      | eq => exact lv_icmp_eq hx hb hd hjm (fun q => hr1 (by rw [i_eq hxx hyy] at q; exact q) h1 h2 h3 H locs ls hg hS hl) (fun q => hr2 (by rw [i_eq hxx hyy] at q; exact q) h1 h2 h3 H locs ls hg hS hl)
      | ne => exact lv_icmp_ne hx hb hd hjm (fun q => hr1 (by rw [i_eq hxx hyy] at q; exact q) h1 h2 h3 H locs ls hg hS hl) (fun q => hr2 (by rw [i_eq hxx hyy] at q; exact fun w => w q) h1 h2 h3 H locs ls hg hS hl)
      | lt => exact lv_icmp_lt hx hb hd hjm (fun q => hr1 (by rw [i_lt hxx hyy] at q; exact q) h1 h2 h3 H locs ls hg hS hl) (fun q => hr2 (by rw [i_lt hxx hyy] at q; exact q) h1 h2 h3 H locs ls hg hS hl)
      | ge => exact lv_icmp_ge hx hb hd hjm (fun q => hr1 (by rw [i_le hyy hxx] at q; exact q) h1 h2 h3 H locs ls hg hS hl) (fun q => hr2 (by rw [i_le hyy hxx] at q; exact q) h1 h2 h3 H locs ls hg hS hl)
      | gt => exact lv_icmp_gt hx hb hd hjm (fun q => hr1 (by rw [i_lt hyy hxx] at q; exact q) h1 h2 h3 H locs ls hg hS hl) (fun q => hr2 (by rw [i_lt hyy hxx] at q; exact q) h1 h2 h3 H locs ls hg hS hl)
      | le => exact lv_icmp_le hx hb hd hjm (fun q => hr1 (by rw [i_le hxx hyy] at q; exact q) h1 h2 h3 H locs ls hg hS hl) (fun q => hr2 (by rw [i_le hxx hyy] at q; exact q) h1 h2 h3 H locs ls hg hS hl)
    | tableswitch df lo hi offs =>
      have hxk : (decide (lo = 0) && decide (hi = (ts.length : Int) - 1) && decide ((pc : Int) + df = (a : Nat)) && decide (offs.toList.map (fun o => (pc : Int) + o) = ts.map (fun t => ((t : Nat) : Int))) && Nat.blt ts.length 100) = true := hxk
      simp only [Bool.and_eq_true, decide_eq_true_eq, Nat.blt_eq] at hxk
      obtain ⟨⟨⟨⟨rfl, rfl⟩, hdf⟩, hoffs⟩, hn⟩ := hxk
      obtain ⟨x, r, rfl, hr⟩ := mI_e hr
      intro h1 h2 h3 H locs ls hg hS hl
      have hxx : inR x := (okt h2).1
      by_cases hin : x < 0 ∨ (ts.length : Int) ≤ x
      · exact lv_tableOut hx hb hd (by rw [i_to hxx]; omega) hdf (V_jump (hr.2 hin) h1 (okt h2).2 h3 H locs ls hg hS hl)
      · have hlt : x.toNat < ts.length := by omega
        obtain ⟨t, ht⟩ : ∃ t, ts[x.toNat]? = some t := ⟨_, List.getElem?_eq_getElem hlt⟩
        have hV : mV G p l e R s m args below meth c Q nL c0 s0 t lv r h := V_jump (swP_at ts 0 x.toNat t hr.1 ht (by omega))
        have ho : ∃ off, offs[x.toNat]? = some off ∧ (pc : Int) + off = (t : Nat) := by
          have h5 : (offs.toList.map (fun o => (pc : Int) + o))[x.toNat]? = (ts.map (fun t => ((t : Nat) : Int)))[x.toNat]? := by rw [hoffs]
          rw [List.getElem?_map, List.getElem?_map, ht] at h5
          cases ho : offs.toList[x.toNat]? with
          | none => rw [ho] at h5; cases h5
          | some off =>
            rw [ho] at h5
            refine ⟨off, ?_, Option.some.inj h5⟩
            rw [← Array.getElem?_toList]
            exact ho
        obtain ⟨off, ho1, ho2⟩ := ho
        exact lv_tableIn hx hb hd (by rw [i_to hxx]; omega) (by rw [i_to hxx]; omega) (by rw [i_to hxx, Int.sub_zero]; exact ho1) ho2 (hV h1 (okt h2).2 h3 H locs ls hg hS hl)
    | getfield idx =>
      have hlen : len = 3 := eq_of_beq hlen
      subst hlen
      have hxk : (lkF own idx a b && ((z == 1) == nRf a b)) = true := hxk
      rw [Bool.and_eq_true] at hxk
      obtain ⟨k, r, rfl, hr⟩ := mR_e hr
      obtain ⟨n, ht, hr⟩ := mTag_e hr
      have hz : (z == 1) = nRf a b := eq_of_beq hxk.2
      cases hq : nRf a b with
      | true =>
        rw [hz, hq] at hr
        obtain ⟨t, hrf, hr⟩ := mRef_e hr
        exact V_getR X hxk.1 hq ht hrf hd (ih _ _ _ _ hrest hr)
      | false =>
        rw [hz, hq] at hr
        exact V_getI X hxk.1 hq ht hd (ih _ _ _ _ hrest hr)
    | putfield idx =>
      have hlen : len = 3 := eq_of_beq hlen
      subst hlen
      have hxk : (lkF own idx a b && ((z == 1) == nRf a b) && (z == 1 || ((z == 2) == ((nFk a b).2.1 == "Z"))) && (!(z == 1) || (ini && own == a))) = true := hxk
      simp only [Bool.and_eq_true] at hxk
      have hz : (z == 1) = nRf a b := eq_of_beq hxk.1.1.2
      have hr' : (bif z == 1 then (mR st fun v r => mR r fun k r => mTag h.1 k (a + 3) fun _ => mB (v.blt h.1.1.length) (mrun cal lb lim scr ret (mV G p l e R s m args below meth c Q nL c0 s0) rows (pc + 3) lv r ((h.1.1, ((k, b), v) :: h.1.2), h.2))) else (mI st fun v r => mR r fun k r => mTag h.1 k (a + 3) fun _ => bif z == 2 then mBo v (mrun cal lb lim scr ret (mV G p l e R s m args below meth c Q nL c0 s0) rows (pc + 3) lv r (h.1, mupd h.2 k (b : Nat) v)) else mrun cal lb lim scr ret (mV G p l e R s m args below meth c Q nL c0 s0) rows (pc + 3) lv r (h.1, mupd h.2 k (b : Nat) v))) := hr
      clear hr
      cases hq : nRf a b with
      | true =>
        rw [hz, hq] at hr'
        obtain ⟨v, r, rfl, hr⟩ := mR_e hr'
        obtain ⟨k, r, rfl, hr⟩ := mR_e hr
        obtain ⟨n, ht, hr⟩ := mTag_e hr
        obtain ⟨-, hr⟩ := mB_e hr
        have h6 := hxk.2
        rw [hz, hq] at h6
        simp only [Bool.not_true, Bool.false_or, Bool.and_eq_true] at h6
        exact V_putR X hxk.1.1.1 hq h6.1 (eq_of_beq h6.2) ht hd (ih _ _ _ _ hrest hr)
      | false =>
        have h6 := hxk.1.2
        rw [hz, hq] at hr' h6
        simp only [Bool.false_or] at h6
        obtain ⟨v, r, rfl, hr⟩ := mI_e hr'
        obtain ⟨k, r, rfl, hr⟩ := mR_e hr
        obtain ⟨n, ht, hr⟩ := mTag_e hr
        have h7 : (z == 2) = ((nFk a b).2.1 == "Z") := eq_of_beq h6
        cases hz2 : (z == 2) with
        | true =>
          rw [hz2] at hr
          obtain ⟨h8, hr⟩ := mBo_e hr
          exact V_putI X hxk.1.1.1 hq (fun _ => h8) ht hd (ih _ _ _ _ hrest hr)
        | false =>
          rw [hz2] at hr h7
          refine V_putI X hxk.1.1.1 hq (fun q => ?_) ht hd (ih _ _ _ _ hrest hr)
          rw [q] at h7
          cases h7
    | iaload =>
      have hlen : len = 1 := eq_of_beq hlen
      subst hlen
      obtain ⟨i, r, rfl, hr⟩ := mI_e hr
      rcases r with _ | ⟨v, r⟩
      · exact hr.elim
      · rcases v with v | v | k | q
        · exact hr.elim
        · exact hr.elim
        · obtain ⟨n, ht, hr⟩ := mTag_e hr
          obtain ⟨hi, hr⟩ := mIn_e hr
          exact V_iald X ht hi.1 hi.2 hd (ih _ _ _ _ hrest hr)
        · cases q with
          | succ q => exact hr.elim
          | zero =>
            obtain ⟨hi, hr⟩ := mIn_e hr
            have hk := ih _ _ _ _ hrest hr
            rcases X.2.2.2.2.2.2 with h0 | ⟨hX, hgb, hsc⟩
            · rw [h0] at hi
              omega
            · intro h1 h2 h3 H locs ls hg hS hl
              have hii : inR i := (okt h2).1
              have hbA : ¬ gA G (gB G) := fun q => by unfold gA at q; omega
              refine va_sld hx hb hX (Nat.lt_of_lt_of_le hgb X.2.2.1.1) hbA hS (i_in hii hi.1 hi.2) hd ?_
              have hk2 := hk h1 (okc (hsc.1 _) (okt (okt h2).2).2) h3 H locs ls hg hS hl
              show W p l e R s m args below meth c H locs (h.1.1.length - c0) (mtot h.1.1 - s0) Q (F0 m (pc + 1) ls (.int (Int32.ofInt (scr.2 (Int32.ofInt i).toNatClampNeg)) :: r.map (toV G)))
              rw [i_clamp hii]
              exact hk2
    | baload =>
      have hlen : len = 1 := eq_of_beq hlen
      subst hlen
      obtain ⟨i, r, rfl, hr⟩ := mI_e hr
      obtain ⟨k, r, rfl, hr⟩ := mR_e hr
      obtain ⟨n, ht, hr⟩ := mTag_e hr
      obtain ⟨hi, hr⟩ := mIn_e hr
      exact V_zald X ht hi.1 hi.2 hd (ih _ _ _ _ hrest hr)
    | iastore =>
      have hlen : len = 1 := eq_of_beq hlen
      subst hlen
      obtain ⟨v, r, rfl, hr⟩ := mI_e hr
      obtain ⟨i, r, rfl, hr⟩ := mI_e hr
      obtain ⟨k, r, rfl, hr⟩ := mR_e hr
      obtain ⟨n, ht, hr⟩ := mTag_e hr
      obtain ⟨hi, hr⟩ := mIn_e hr
      exact V_iast X ht hi.1 hi.2 hd (ih _ _ _ _ hrest hr)
    | bastore =>
      have hlen : len = 1 := eq_of_beq hlen
      subst hlen
      obtain ⟨v, r, rfl, hr⟩ := mI_e hr
      obtain ⟨i, r, rfl, hr⟩ := mI_e hr
      obtain ⟨k, r, rfl, hr⟩ := mR_e hr
      obtain ⟨n, ht, hr⟩ := mTag_e hr
      obtain ⟨hi, hr⟩ := mIn_e hr
      obtain ⟨hv, hr⟩ := mBo_e hr
      exact V_zast X ht hi.1 hi.2 hv hd (ih _ _ _ _ hrest hr)
    | aaload =>
      have hlen : len = 1 := eq_of_beq hlen
      subst hlen
      obtain ⟨i, r, rfl, hr⟩ := mI_e hr
      obtain ⟨k, r, rfl, hr⟩ := mR_e hr
      obtain ⟨n, ht, hr⟩ := mTag_e hr
      obtain ⟨hi, t, htt, hr⟩ := mIn_e hr
      exact V_aald X ht hi.1 hi.2 htt hd (ih _ _ _ _ hrest hr)
    | aastore =>
      have hlen : len = 1 := eq_of_beq hlen
      subst hlen
      obtain ⟨v, r, rfl, hr⟩ := mR_e hr
      obtain ⟨i, r, rfl, hr⟩ := mI_e hr
      obtain ⟨k, r, rfl, hr⟩ := mR_e hr
      obtain ⟨n, ht, hr⟩ := mTag_e hr
      obtain ⟨nv, hv, hr⟩ := mTag_e hr
      obtain ⟨hi, hr⟩ := mIn_e hr
      exact V_aast X ht hv hi.1 hi.2 hd (ih _ _ _ _ hrest hr)
    | arraylength =>
      have hlen : len = 1 := eq_of_beq hlen
      subst hlen
      rcases st with _ | ⟨v, r⟩
      · exact hr.elim
      · rcases v with v | v | k | q
        · exact hr.elim
        · exact hr.elim
        · obtain ⟨n, ht, hr⟩ := mTag_e hr
          have hk := ih _ _ _ _ hrest hr
          intro h1 h2 h3 H locs ls hg hS hl
          have hn1 : n ≤ 1000 := hg.2.1.2.2 _ (List.mem_of_getElem? ht)
          have hn : inR ((n : Nat) : Int) := by unfold inR; omega
          refine va_alen hx hb hG.1 hg.1 k 0 (mW_at ht) (ty := .int) rfl (v := Int32.ofInt ((n : Nat) : Int)) ?_ hd (hk h1 (okc hn (okt h2).2) h3 H locs ls hg hS hl)
          show Int32.ofNat n = _
          exact (Int32.ofInt_eq_ofNat).symm
        · cases q with
          | succ q => exact hr.elim
          | zero =>
            obtain ⟨hb0, hr⟩ := mB_e hr
            have hk := ih _ _ _ _ hrest hr
            rcases X.2.2.2.2.2.2 with h0 | ⟨hX, hgb, hsc⟩
            · rw [h0] at hb0
              cases hb0
            · intro h1 h2 h3 H locs ls hg hS hl
              have hbA : ¬ gA G (gB G) := fun q => by unfold gA at q; omega
              have hn : inR ((scr.1 - 1 : Nat) : Int) := by have := hsc.2; unfold inR; omega
              refine va_slen hx hb hX (Nat.lt_of_lt_of_le hgb X.2.2.1.1) hbA hS hd ?_
              have hk2 := hk h1 (okc hn (okt h2).2) h3 H locs ls hg hS hl
              rw [show Int32.ofNat (scr.1 - 1) = Int32.ofInt ((scr.1 - 1 : Nat) : Int) from (Int32.ofInt_eq_ofNat).symm]
              exact hk2
    | new idx =>
      have hlen : len = 3 := eq_of_beq hlen
      subst hlen
      have hxk : (lkC own idx a && b == nN a) = true := hxk
      rw [Bool.and_eq_true] at hxk
      have hb2 := eq_of_beq hxk.2
      subst hb2
      exact V_new X hxk.1 hr.1 hd (ih _ _ _ _ hrest hr.2)
    | newarray t =>
      have hlen : len = 2 := eq_of_beq hlen
      subst hlen
      have hxk : ((a == 0 && decide (t = .int)) || (a == 1 && decide (t = .boolean))) = true := hxk
      simp only [Bool.or_eq_true, Bool.and_eq_true, decide_eq_true_eq] at hxk
      obtain ⟨n, r, rfl, hr⟩ := mI_e hr
      rcases hxk with ⟨e1, rfl⟩ | ⟨e1, rfl⟩
      · have e1 := eq_of_beq e1
        subst e1
        exact V_newI X ⟨hr.1.1, hr.1.2.1⟩ hr.1.2.2 hd (ih _ _ _ _ hrest hr.2)
      · have e1 := eq_of_beq e1
        subst e1
        exact V_newZ X ⟨hr.1.1, hr.1.2.1⟩ hr.1.2.2 hd (ih _ _ _ _ hrest hr.2)
    | anewarray idx =>
      have hlen : len = 3 := eq_of_beq hlen
      subst hlen
      obtain ⟨n, r, rfl, hr⟩ := mI_e hr
      exact V_newS X hxk ⟨hr.1.1, hr.1.2.1⟩ hr.1.2.2 hd (ih _ _ _ _ hrest hr.2)
    | invokespecial idx =>
      have hlen : len = 3 := eq_of_beq hlen
      subst hlen
      have hxk' : (bif a == 9000 then (lOb.lookup (own, idx)).isSome else ((lkM own idx a || lkN own idx a) && mInitL.contains a && !mStc a && b == npar a + 1 && Nat.blt a 191 && decide (mRt a = none) && nNeed a == 0)) = true := hxk
      have hr' : (bif a == 9000 then (mR st fun _ r => mB (Nat.ble (r.map mcat).sum 8) (mrun cal lb lim scr ret (mV G p l e R s m args below meth c Q nL c0 s0) rows (pc + 3) lv r h)) else mB (Nat.ble b st.length && Nat.ble ((st.drop b).map mcat).sum 8 && rcvOK h.1 (st.drop (b - 1)) ts) (∃ h', cal a (st.take b).reverse h (none, h') ∧ (h'.1.1.length ≤ lim.1 ∧ mtot h'.1.1 ≤ lim.2 ∧ h.1.1.length ≤ h'.1.1.length ∧ mtot h.1.1 ≤ mtot h'.1.1) ∧ mrun cal lb lim scr ret (mV G p l e R s m args below meth c Q nL c0 s0) rows (pc + 3) lv (st.drop b) h')) := hr
      clear hr
      cases hq : (a == 9000) with
      | true =>
        rw [hq] at hxk' hr'
        obtain ⟨k, r, rfl, hr⟩ := mR_e hr'
        obtain ⟨h8, hr⟩ := mB_e hr
        exact V_obj X hxk' (Nat.le_of_ble_eq_true h8) hd (ih _ _ _ _ hrest hr)
      | false =>
        rw [hq] at hxk' hr'
        simp only [cond_false, Bool.and_eq_true, decide_eq_true_eq, Nat.blt_eq, Bool.not_eq_true'] at hxk'
        obtain ⟨⟨⟨⟨⟨⟨hlk, hin⟩, hsc⟩, hbb⟩, ha⟩, hrt⟩, hnn⟩ := hxk'
        have hbb := eq_of_beq hbb
        subst hbb
        obtain ⟨h8, h', hc1, hcap, hr⟩ := mB_e hr'
        simp only [Bool.and_eq_true] at h8
        have hk : ∃ k, (st.drop (npar a)).head? = some (vr k) := by
          have h9 := h8.2
          unfold rcvOK at h9
          split at h9
          · rename_i k rr heq
            exact ⟨k, by rw [show npar a = npar a + 1 - 1 from rfl, heq]; rfl⟩
          · cases h9
        obtain ⟨k, hk⟩ := hk
        exact V_callI X (hcal a _ h _ hc1 (by rw [eq_of_beq hnn]; omega)) hlk hsc hin ha hrt hcap (Nat.le_of_ble_eq_true h8.1.1) hk (Nat.le_of_ble_eq_true h8.1.2) hd (ih _ _ _ _ hrest hr)
    | invokevirtual idx =>
      have hlen : len = 3 := eq_of_beq hlen
      subst hlen
      obtain ⟨h8, hr2⟩ := mB_e hr
      clear hr
      simp only [Bool.and_eq_true] at h8
      have hxk' : (bif decide (z < 3) then (lkM own idx a && !mStc a && !(mInitL.contains a) && b == npar a + 1 && ts == [mOw a + 3] && Nat.blt a 191 && (nNeed a == 0 || Nat.blt (nNeed a) nd)) else bif z == 5 then (lkS own idx 15 && b == 1 && Nat.ble 5 nd) else (lkS own idx 16 && b == 2 && Nat.ble 5 nd)) = true := hxk
      have key : ∀ (rr : Option mVal) (m' : mMem), decide (z < 3) = true → rcvOK h.1 (st.drop (b - 1)) ts = true → cal a (st.take b).reverse h (rr, (h.1, m')) → mrun cal lb lim scr ret (mV G p l e R s m args below meth c Q nL c0 s0) rows (pc + 3) lv (rr.toList ++ st.drop b) (h.1, m') → mV G p l e R s m args below meth c Q nL c0 s0 pc lv st h := by
        intro rr m' hz hrc hc1 hr
        rw [hz] at hxk'
        simp only [cond_true, Bool.and_eq_true, Bool.or_eq_true, Nat.blt_eq, Bool.not_eq_true'] at hxk'
        obtain ⟨⟨⟨⟨⟨⟨hlk, hsc⟩, hin⟩, hbb⟩, htt⟩, ha⟩, hnn⟩ := hxk'
        have hbb := eq_of_beq hbb
        subst hbb
        have htt := eq_of_beq htt
        subst htt
        obtain ⟨k, nk, hk, ht⟩ := rcv_e hrc
        have hned : nNeed a ≤ d := by
          rcases hnn with q | q
          · rw [eq_of_beq q]; omega
          · omega
        exact V_callV X (hcal a _ h _ hc1 hned) rfl hlk hsc hin ha (Nat.le_of_ble_eq_true h8.1) hk ht (Nat.le_of_ble_eq_true h8.2) hd (ih _ _ _ _ hrest hr)
      split at hr2
      · obtain ⟨hrc, m', hc1, hr⟩ := mB_e hr2
        exact key none m' (by decide) hrc hc1 hr
      · obtain ⟨hrc, v, m', hc1, hr⟩ := mB_e hr2
        exact key (some (vi v)) m' (by decide) hrc hc1 hr
      · obtain ⟨hrc, v, m', hc1, hr⟩ := mB_e hr2
        exact key (some (vl v)) m' (by decide) hrc hc1 hr
      · have hxk2 : (lkS own idx 15 && b == 1 && Nat.ble 5 nd) = true := hxk'
        simp only [Bool.and_eq_true] at hxk2
        have hbb := eq_of_beq hxk2.1.2
        subst hbb
        split at hr2
        · rename_i i r
          have h5 := Nat.le_of_ble_eq_true hxk2.2
          exact V_len X hstr (by omega) hxk2.1.1 (Nat.le_of_ble_eq_true h8.2) hd (ih _ _ _ _ hrest hr2)
        · exact hr2.elim
      · have hxk2 : (lkS own idx 16 && b == 2 && Nat.ble 5 nd) = true := hxk'
        simp only [Bool.and_eq_true] at hxk2
        have hbb := eq_of_beq hxk2.1.2
        subst hbb
        split at hr2
        · rename_i j i r
          obtain ⟨hj, hr⟩ := mIn_e hr2
          have h5 := Nat.le_of_ble_eq_true hxk2.2
          exact V_chr X hstr (by omega) hxk2.1.1 (Nat.le_of_ble_eq_true h8.2) hj.1 hj.2 hd (ih _ _ _ _ hrest hr)
        · exact hr2.elim
      · exact hr2.elim
    | invokestatic idx =>
      have hlen : len = 3 := eq_of_beq hlen
      subst hlen
      obtain ⟨h8, hr2⟩ := mB_e hr
      clear hr
      simp only [Bool.and_eq_true] at h8
      have hxk' : (bif decide (z < 3) then (lkM own idx a && mStc a && b == npar a && Nat.blt a 191 && (nNeed a == 0 || Nat.blt (nNeed a) nd)) else (lkS own idx z.toNat && (b == bif z == 3 then 5 else 2))) = true := hxk
      have key : ∀ (rr : Option mVal) (m' : mMem), decide (z < 3) = true → cal a (st.take b).reverse h (rr, (h.1, m')) → mrun cal lb lim scr ret (mV G p l e R s m args below meth c Q nL c0 s0) rows (pc + 3) lv (rr.toList ++ st.drop b) (h.1, m') → mV G p l e R s m args below meth c Q nL c0 s0 pc lv st h := by
        intro rr m' hz hc1 hr
        rw [hz] at hxk'
        simp only [cond_true, Bool.and_eq_true, Bool.or_eq_true, Nat.blt_eq] at hxk'
        obtain ⟨⟨⟨⟨hlk, hsc⟩, hbb⟩, ha⟩, hnn⟩ := hxk'
        have hbb := eq_of_beq hbb
        subst hbb
        have hned : nNeed a ≤ d := by
          rcases hnn with q | q
          · rw [eq_of_beq q]; omega
          · omega
        exact V_callS X (hcal a _ h _ hc1 hned) rfl hlk hsc ha (Nat.le_of_ble_eq_true h8.1) (Nat.le_of_ble_eq_true h8.2) hd (ih _ _ _ _ hrest hr)
      split at hr2
      · obtain ⟨m', hc1, hr⟩ := hr2
        exact key none m' (by decide) hc1 hr
      · obtain ⟨v, m', hc1, hr⟩ := hr2
        exact key (some (vi v)) m' (by decide) hc1 hr
      · obtain ⟨v, m', hc1, hr⟩ := hr2
        exact key (some (vl v)) m' (by decide) hc1 hr
      · have hxk2 : (lkS own idx 3 && b == 5) = true := hxk'
        rw [Bool.and_eq_true] at hxk2
        have hbb := eq_of_beq hxk2.2
        subst hbb
        obtain ⟨n, r1, rfl, hr3⟩ := mI_e hr2
        obtain ⟨dp, r2, rfl, hr4⟩ := mI_e hr3
        obtain ⟨ds, r3, rfl, hr5⟩ := mR_e hr4
        obtain ⟨sp, r4, rfl, hr6⟩ := mI_e hr5
        obtain ⟨sr, r5, rfl, hr7⟩ := mR_e hr6
        obtain ⟨ns, hns, hr8⟩ := mTag_e hr7
        obtain ⟨nds, hnds, hr9⟩ := mTag_e hr8
        exact V_copy X hxk2.1 hns hnds hr9.1 (Nat.le_of_ble_eq_true h8.2) hd (ih _ _ _ _ hrest hr9.2)
      · have hxk2 : (lkS own idx 4 && b == 2) = true := hxk'
        rw [Bool.and_eq_true] at hxk2
        have hbb := eq_of_beq hxk2.2
        subst hbb
        obtain ⟨y, r, rfl, hr⟩ := mI_e hr2
        obtain ⟨x, r, rfl, hr⟩ := mI_e hr
        exact V_min X hxk2.1 (Nat.le_of_ble_eq_true h8.2) hd (ih _ _ _ _ hrest hr)
      · have hxk2 : (lkS own idx 5 && b == 2) = true := hxk'
        rw [Bool.and_eq_true] at hxk2
        have hbb := eq_of_beq hxk2.2
        subst hbb
        obtain ⟨y, r, rfl, hr⟩ := mI_e hr2
        obtain ⟨x, r, rfl, hr⟩ := mI_e hr
        exact V_max X hxk2.1 (Nat.le_of_ble_eq_true h8.2) hd (ih _ _ _ _ hrest hr)
      · have hxk2 : (lkS own idx 6 && b == 2) = true := hxk'
        rw [Bool.and_eq_true] at hxk2
        have hbb := eq_of_beq hxk2.2
        subst hbb
        obtain ⟨y, r, rfl, hr⟩ := mL_e hr2
        obtain ⟨x, r, rfl, hr⟩ := mL_e hr
        exact V_maxL X hxk2.1 (Nat.le_of_ble_eq_true h8.2) hd (ih _ _ _ _ hrest hr)
      · exact hr2.elim
    | ireturn =>
      have hlen : len = 1 := eq_of_beq hlen
      subst hlen
      have hxk' : (bif z == 1 then decide (rt = some .boolean) else decide (rt = some .int)) = true := hxk
      obtain ⟨v, r, rfl, hr1⟩ := mI_e hr
      clear hr
      obtain ⟨he, hr2⟩ := mB_e hr1
      clear hr1
      have hre : r = [] := List.isEmpty_iff.mp he
      subst hre
      cases hq : (z == 1) with
      | true =>
        rw [hq] at hxk' hr2
        obtain ⟨hv, hr⟩ := mBo_e hr2
        exact hI pc lv v h hd (Or.inr ⟨of_decide_eq_true hxk', hv⟩) hr
      | false =>
        rw [hq] at hxk' hr2
        exact hI pc lv v h hd (Or.inl (of_decide_eq_true hxk')) hr2
    | lreturn =>
      have hlen : len = 1 := eq_of_beq hlen
      subst hlen
      obtain ⟨v, r, rfl, hr⟩ := mL_e hr
      obtain ⟨he, hr⟩ := mB_e hr
      have hre : r = [] := List.isEmpty_iff.mp he
      subst hre
      exact hJ pc lv v h hd (of_decide_eq_true hxk) hr
    | return_ =>
      have hlen : len = 1 := eq_of_beq hlen
      subst hlen
      obtain ⟨he, hr⟩ := mB_e hr
      have hre : st = [] := List.isEmpty_iff.mp he
      subst hre
      exact hN pc lv h hd (of_decide_eq_true hxk) hr
    | _ => exact hr.elim
end
