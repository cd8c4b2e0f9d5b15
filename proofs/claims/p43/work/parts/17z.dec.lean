/-! DECODING: a method's bytes as one number; the rows of a method checked by it -/
def dBy (n i : Nat) : Nat := n / 256 ^ i % 256
def pk : List UInt8 → Nat
  | [] => 0
  | b :: r => b.toNat + 256 * pk r
theorem pk_at : ∀ (l : List UInt8) (i : Nat) (h : i < l.length), (l[i]).toNat = dBy (pk l) i
  | [], _, h => absurd h (Nat.not_lt_zero _)
  | b :: r, 0, _ => by
    have hb := b.toNat_lt
    show b.toNat = (b.toNat + 256 * pk r) / 256 ^ 0 % 256
    rw [Nat.pow_zero, Nat.div_one]
    omega
  | b :: r, i + 1, h => by
    have hb := b.toNat_lt
    have ih := pk_at r i (Nat.lt_of_succ_lt_succ h)
    show (r[i]'(Nat.lt_of_succ_lt_succ h)).toNat = (b.toNat + 256 * pk r) / 256 ^ (i + 1) % 256
    have e : (b.toNat + 256 * pk r) / 256 = pk r := by omega
    rw [Nat.pow_succ, Nat.mul_comm (256 ^ i) 256, ← Nat.div_div_eq_div_mul, e]
    exact ih
abbrev pkA (cc : ByteArray) : Nat := pk cc.data.toList
theorem pkA_at {cc : ByteArray} {p : Nat} (h : p < cc.size) : cc[p].toNat = dBy (pkA cc) p := by
  obtain ⟨bs⟩ := cc
  have h1 : p < bs.toList.length := by rw [Array.length_toList]; exact h
  have q := pk_at bs.toList p h1
  rw [Array.getElem_toList] at q
  exact q
theorem u1_at {cc : ByteArray} {p : Nat} (h : p < cc.size) : (Reader.u1 : Decoder Nat) cc p = .ok (dBy (pkA cc) p, p + 1) := by
  rw [← pkA_at h]
  unfold Reader.u1
  show (dite (p < cc.size) (fun h => (do set (p + 1); Pure.pure cc[p].toNat : Decoder Nat)) (fun _ => throw (HasTruncated.truncated p))) cc p = _
  rw [dif_pos h]
  rfl
theorem u2_at {cc : ByteArray} {p : Nat} (h : p + 1 < cc.size) : (Reader.u2 : Decoder Nat) cc p = .ok (dBy (pkA cc) p * 256 + dBy (pkA cc) (p + 1), p + 2) := by
  have e : (Reader.u2 : Decoder Nat) cc p = Except.bind ((Reader.u1 : Decoder Nat) cc p) (fun q => Except.bind ((Reader.u1 : Decoder Nat) cc q.2) (fun t => .ok (q.1 * 256 + t.1, t.2))) := rfl
  rw [e, u1_at (by omega)]
  show Except.bind ((Reader.u1 : Decoder Nat) cc (p + 1)) _ = _
  rw [u1_at h]
  rfl
theorem map_at {x : Decoder Nat} {g : Nat → Int} {cc : ByteArray} {p v p2 : Nat} (h : x cc p = .ok (v, p2)) : (g <$> x : Decoder Int) cc p = .ok (g v, p2) := by
  have e : (g <$> x : Decoder Int) cc p = Except.bind (x cc p) (fun q => .ok (g q.1, q.2)) := rfl
  rw [e, h]
  rfl
theorem s1_at {cc : ByteArray} {p : Nat} (h : p < cc.size) : (Reader.s1 : Decoder Int) cc p = .ok (Reader.signed 8 (dBy (pkA cc) p), p + 1) := map_at (u1_at h)
theorem s2_at {cc : ByteArray} {p : Nat} (h : p + 1 < cc.size) : (Reader.s2 : Decoder Int) cc p = .ok (Reader.signed 16 (dBy (pkA cc) p * 256 + dBy (pkA cc) (p + 1)), p + 2) := map_at (u2_at h)
theorem dq_ {F : Nat → Decoder Instr} {ins : Instr} {cc : ByteArray} {pc b k : Nat} (hi : Decoder.instr pc = (Reader.u1 >>= F)) (hu : (Reader.u1 : Decoder Nat) cc pc = .ok (b, pc + 1)) (hf : F b cc (pc + 1) = .ok (ins, pc + k)) : decode cc pc = .ok (ins, k) := by
  have e : decode cc pc = Except.bind (Decoder.instr pc cc pc) (fun q => .ok (q.1, q.2 - pc)) := rfl
  have e2 : (Reader.u1 >>= F : Decoder Instr) cc pc = Except.bind ((Reader.u1 : Decoder Nat) cc pc) (fun q => F q.1 cc q.2) := rfl
  rw [e, hi, e2, hu]
  show Except.bind (F b cc (pc + 1)) _ = _
  rw [hf]
  show Except.ok (ins, pc + k - pc) = _
  rw [Nat.add_sub_cancel_left]
theorem dr_ {α : Type} {r : Decoder α} {f : α → Instr} {cc : ByteArray} {p p2 : Nat} {v : α} (hr : r cc p = .ok (v, p2)) : (r >>= fun x => Pure.pure (f x) : Decoder Instr) cc p = .ok (f v, p2) := by
  have e : (r >>= fun x => Pure.pure (f x) : Decoder Instr) cc p = Except.bind (r cc p) (fun q => .ok (f q.1, q.2)) := rfl
  rw [e, hr]
  rfl
def o0 (n sz pc len b : Nat) : Bool := Nat.beq len 1 && Nat.blt pc sz && Nat.beq (dBy n pc) b
def o1 (n sz pc len b v : Nat) : Bool := Nat.beq len 2 && Nat.blt (pc + 1) sz && Nat.beq (dBy n pc) b && Nat.beq (dBy n (pc + 1)) v
def o2 (n sz pc len b v : Nat) : Bool := Nat.beq len 3 && Nat.blt (pc + 2) sz && Nat.beq (dBy n pc) b && Nat.beq (dBy n (pc + 1) * 256 + dBy n (pc + 2)) v
def o3 (n sz pc len b : Nat) (v : Int) : Bool := Nat.beq len 2 && Nat.blt (pc + 1) sz && Nat.beq (dBy n pc) b && decide (Reader.signed 8 (dBy n (pc + 1)) = v)
def o4 (n sz pc len b : Nat) (v : Int) : Bool := Nat.beq len 3 && Nat.blt (pc + 2) sz && Nat.beq (dBy n pc) b && decide (Reader.signed 16 (dBy n (pc + 1) * 256 + dBy n (pc + 2)) = v)
def o5 (n sz pc len b v : Nat) (z : Int) : Bool := Nat.beq len 3 && Nat.blt (pc + 2) sz && Nat.beq (dBy n pc) b && Nat.beq (dBy n (pc + 1)) v && decide (Reader.signed 8 (dBy n (pc + 2)) = z)
theorem blt_ {a b : Nat} (h : Nat.blt a b = true) : a < b := Nat.le_of_ble_eq_true h
section
variable {F : Nat → Decoder Instr} {cc : ByteArray} {pc len b v : Nat} {z : Int}
theorem o0_ok {ins : Instr} (h : o0 (pkA cc) cc.size pc len b = true) (hi : Decoder.instr pc = (Reader.u1 >>= F)) (hF : F b = Pure.pure ins) : decode cc pc = .ok (ins, len) := by
  unfold o0 at h
  simp only [Bool.and_eq_true] at h
  obtain ⟨⟨h1, h2⟩, h3⟩ := h
  have e1 := Nat.eq_of_beq_eq_true h1
  have e3 := Nat.eq_of_beq_eq_true h3
  subst e1 e3
  exact dq_ hi (u1_at (blt_ h2)) (by rw [hF]; rfl)
theorem o1_ok (f : Nat → Instr) (h : o1 (pkA cc) cc.size pc len b v = true) (hi : Decoder.instr pc = (Reader.u1 >>= F)) (hF : F b = (Reader.u1 >>= fun x => Pure.pure (f x))) : decode cc pc = .ok (f v, len) := by
  unfold o1 at h
  simp only [Bool.and_eq_true] at h
  obtain ⟨⟨⟨h1, h2⟩, h3⟩, h4⟩ := h
  have e1 := Nat.eq_of_beq_eq_true h1
  have e3 := Nat.eq_of_beq_eq_true h3
  have e4 := Nat.eq_of_beq_eq_true h4
  subst e1 e3 e4
  have h2 := blt_ h2
  exact dq_ hi (u1_at (by omega)) (by rw [hF]; exact dr_ (u1_at h2))
theorem o2_ok (f : Nat → Instr) (h : o2 (pkA cc) cc.size pc len b v = true) (hi : Decoder.instr pc = (Reader.u1 >>= F)) (hF : F b = (Reader.u2 >>= fun x => Pure.pure (f x))) : decode cc pc = .ok (f v, len) := by
  unfold o2 at h
  simp only [Bool.and_eq_true] at h
  obtain ⟨⟨⟨h1, h2⟩, h3⟩, h4⟩ := h
  have e1 := Nat.eq_of_beq_eq_true h1
  have e3 := Nat.eq_of_beq_eq_true h3
  have e4 := Nat.eq_of_beq_eq_true h4
  subst e1 e3 e4
  have h2 := blt_ h2
  exact dq_ hi (u1_at (by omega)) (by rw [hF]; exact dr_ (u2_at h2))
theorem o3_ok (f : Int → Instr) (h : o3 (pkA cc) cc.size pc len b z = true) (hi : Decoder.instr pc = (Reader.u1 >>= F)) (hF : F b = (Reader.s1 >>= fun x => Pure.pure (f x))) : decode cc pc = .ok (f z, len) := by
  unfold o3 at h
  simp only [Bool.and_eq_true] at h
  obtain ⟨⟨⟨h1, h2⟩, h3⟩, h4⟩ := h
  have e1 := Nat.eq_of_beq_eq_true h1
  have e3 := Nat.eq_of_beq_eq_true h3
  have e4 := of_decide_eq_true h4
  subst e1 e3 e4
  have h2 := blt_ h2
  exact dq_ hi (u1_at (by omega)) (by rw [hF]; exact dr_ (s1_at h2))
theorem o4_ok (f : Int → Instr) (h : o4 (pkA cc) cc.size pc len b z = true) (hi : Decoder.instr pc = (Reader.u1 >>= F)) (hF : F b = (Reader.s2 >>= fun x => Pure.pure (f x))) : decode cc pc = .ok (f z, len) := by
  unfold o4 at h
  simp only [Bool.and_eq_true] at h
  obtain ⟨⟨⟨h1, h2⟩, h3⟩, h4⟩ := h
  have e1 := Nat.eq_of_beq_eq_true h1
  have e3 := Nat.eq_of_beq_eq_true h3
  have e4 := of_decide_eq_true h4
  subst e1 e3 e4
  have h2 := blt_ h2
  exact dq_ hi (u1_at (by omega)) (by rw [hF]; exact dr_ (s2_at h2))
theorem o5_ok (h : o5 (pkA cc) cc.size pc len b v z = true) (hi : Decoder.instr pc = (Reader.u1 >>= F)) (hF : F b = (Reader.u1 >>= fun x => Reader.s1 >>= fun y => Pure.pure (Instr.iinc x y))) : decode cc pc = .ok (Instr.iinc v z, len) := by
  unfold o5 at h
  simp only [Bool.and_eq_true] at h
  obtain ⟨⟨⟨⟨h1, h2⟩, h3⟩, h4⟩, h5⟩ := h
  have e1 := Nat.eq_of_beq_eq_true h1
  have e3 := Nat.eq_of_beq_eq_true h3
  have e4 := Nat.eq_of_beq_eq_true h4
  have e5 := of_decide_eq_true h5
  subst e1 e3 e4 e5
  have h2 := blt_ h2
  refine dq_ hi (u1_at (by omega)) ?_
  rw [hF]
  have e : (Reader.u1 >>= fun x => Reader.s1 >>= fun y => Pure.pure (Instr.iinc x y) : Decoder Instr) cc (pc + 1) = Except.bind ((Reader.u1 : Decoder Nat) cc (pc + 1)) (fun q => (Reader.s1 >>= fun y => Pure.pure (Instr.iinc q.1 y) : Decoder Instr) cc q.2) := rfl
  rw [e, u1_at (by omega)]
  exact dr_ (s1_at h2)
end
def cix (c : Jvm.ClassFile.Cond) : Nat := match c with
  | .eq => 0
  | .ne => 1
  | .lt => 2
  | .ge => 3
  | .gt => 4
  | .le => 5
def dOK (cc : ByteArray) (n sz pc : Nat) (ins : Instr) (len : Nat) : Bool := match ins with
  | .aaload => o0 n sz pc len 50
  | .aastore => o0 n sz pc len 83
  | .arraylength => o0 n sz pc len 190
  | .baload => o0 n sz pc len 51
  | .bastore => o0 n sz pc len 84
  | .dup => o0 n sz pc len 89
  | .i2l => o0 n sz pc len 133
  | .iadd => o0 n sz pc len 96
  | .iaload => o0 n sz pc len 46
  | .iand => o0 n sz pc len 126
  | .iastore => o0 n sz pc len 79
  | .idiv => o0 n sz pc len 108
  | .imul => o0 n sz pc len 104
  | .ineg => o0 n sz pc len 116
  | .ior => o0 n sz pc len 128
  | .irem => o0 n sz pc len 112
  | .ireturn => o0 n sz pc len 172
  | .ishl => o0 n sz pc len 120
  | .ishr => o0 n sz pc len 122
  | .isub => o0 n sz pc len 100
  | .iushr => o0 n sz pc len 124
  | .ladd => o0 n sz pc len 97
  | .lcmp => o0 n sz pc len 148
  | .ldiv => o0 n sz pc len 109
  | .lmul => o0 n sz pc len 105
  | .lrem => o0 n sz pc len 113
  | .lreturn => o0 n sz pc len 173
  | .pop => o0 n sz pc len 87
  | .pop2 => o0 n sz pc len 88
  | .return_ => o0 n sz pc len 177
  | .aload v => o1 n sz pc len 25 v
  | .astore v => o1 n sz pc len 58 v
  | .iload v => o1 n sz pc len 21 v
  | .istore v => o1 n sz pc len 54 v
  | .lload v => o1 n sz pc len 22 v
  | .lstore v => o1 n sz pc len 55 v
  | .ldc v => o1 n sz pc len 18 v
  | .anewarray v => o2 n sz pc len 189 v
  | .getfield v => o2 n sz pc len 180 v
  | .putfield v => o2 n sz pc len 181 v
  | .invokespecial v => o2 n sz pc len 183 v
  | .invokestatic v => o2 n sz pc len 184 v
  | .invokevirtual v => o2 n sz pc len 182 v
  | .new v => o2 n sz pc len 187 v
  | .ldc2_w v => o2 n sz pc len 20 v
  | .aload_n k => o0 n sz pc len (42 + k.val)
  | .astore_n k => o0 n sz pc len (75 + k.val)
  | .iload_n k => o0 n sz pc len (26 + k.val)
  | .istore_n k => o0 n sz pc len (59 + k.val)
  | .lload_n k => o0 n sz pc len (30 + k.val)
  | .lstore_n k => o0 n sz pc len (63 + k.val)
  | .lconst k => o0 n sz pc len (9 + k.val)
  | .iconst z => decide (-1 ≤ z) && decide (z ≤ 5) && o0 n sz pc len (z + 3).toNat
  | .bipush z => o3 n sz pc len 16 z
  | .sipush z => o4 n sz pc len 17 z
  | .goto z => o4 n sz pc len 167 z
  | .ifCond c z => o4 n sz pc len (153 + cix c) z
  | .if_icmp c z => o4 n sz pc len (159 + cix c) z
  | .iinc v z => o5 n sz pc len 132 v z
  | ins => decide (decode cc pc = .ok (ins, len))
theorem fin4_c : ∀ k : Fin 4, k = 0 ∨ k = 1 ∨ k = 2 ∨ k = 3 := by decide
theorem fin2_c : ∀ k : Fin 2, k = 0 ∨ k = 1 := by decide
theorem dOK_ok {cc : ByteArray} {pc len : Nat} {ins : Instr} (h : dOK cc (pkA cc) cc.size pc ins len = true) : decode cc pc = .ok (ins, len) := by
  cases ins with
  | aaload => exact o0_ok (b := 50) h rfl rfl
  | aastore => exact o0_ok (b := 83) h rfl rfl
  | arraylength => exact o0_ok (b := 190) h rfl rfl
  | baload => exact o0_ok (b := 51) h rfl rfl
  | bastore => exact o0_ok (b := 84) h rfl rfl
  | dup => exact o0_ok (b := 89) h rfl rfl
  | i2l => exact o0_ok (b := 133) h rfl rfl
  | iadd => exact o0_ok (b := 96) h rfl rfl
  | iaload => exact o0_ok (b := 46) h rfl rfl
  | iand => exact o0_ok (b := 126) h rfl rfl
  | iastore => exact o0_ok (b := 79) h rfl rfl
  | idiv => exact o0_ok (b := 108) h rfl rfl
  | imul => exact o0_ok (b := 104) h rfl rfl
  | ineg => exact o0_ok (b := 116) h rfl rfl
  | ior => exact o0_ok (b := 128) h rfl rfl
  | irem => exact o0_ok (b := 112) h rfl rfl
  | ireturn => exact o0_ok (b := 172) h rfl rfl
  | ishl => exact o0_ok (b := 120) h rfl rfl
  | ishr => exact o0_ok (b := 122) h rfl rfl
  | isub => exact o0_ok (b := 100) h rfl rfl
  | iushr => exact o0_ok (b := 124) h rfl rfl
  | ladd => exact o0_ok (b := 97) h rfl rfl
  | lcmp => exact o0_ok (b := 148) h rfl rfl
  | ldiv => exact o0_ok (b := 109) h rfl rfl
  | lmul => exact o0_ok (b := 105) h rfl rfl
  | lrem => exact o0_ok (b := 113) h rfl rfl
  | lreturn => exact o0_ok (b := 173) h rfl rfl
  | pop => exact o0_ok (b := 87) h rfl rfl
  | pop2 => exact o0_ok (b := 88) h rfl rfl
  | return_ => exact o0_ok (b := 177) h rfl rfl
  | aload v => exact o1_ok (b := 25) Instr.aload h rfl rfl
  | astore v => exact o1_ok (b := 58) Instr.astore h rfl rfl
  | iload v => exact o1_ok (b := 21) Instr.iload h rfl rfl
  | istore v => exact o1_ok (b := 54) Instr.istore h rfl rfl
  | lload v => exact o1_ok (b := 22) Instr.lload h rfl rfl
  | lstore v => exact o1_ok (b := 55) Instr.lstore h rfl rfl
  | ldc v => exact o1_ok (b := 18) Instr.ldc h rfl rfl
  | anewarray v => exact o2_ok (b := 189) Instr.anewarray h rfl rfl
  | getfield v => exact o2_ok (b := 180) Instr.getfield h rfl rfl
  | putfield v => exact o2_ok (b := 181) Instr.putfield h rfl rfl
  | invokespecial v => exact o2_ok (b := 183) Instr.invokespecial h rfl rfl
  | invokestatic v => exact o2_ok (b := 184) Instr.invokestatic h rfl rfl
  | invokevirtual v => exact o2_ok (b := 182) Instr.invokevirtual h rfl rfl
  | new v => exact o2_ok (b := 187) Instr.new h rfl rfl
  | ldc2_w v => exact o2_ok (b := 20) Instr.ldc2_w h rfl rfl
  | aload_n k =>
    rcases fin4_c k with rfl | rfl | rfl | rfl
    · exact o0_ok (b := 42) h rfl rfl
    · exact o0_ok (b := 43) h rfl rfl
    · exact o0_ok (b := 44) h rfl rfl
    · exact o0_ok (b := 45) h rfl rfl
  | astore_n k =>
    rcases fin4_c k with rfl | rfl | rfl | rfl
    · exact o0_ok (b := 75) h rfl rfl
    · exact o0_ok (b := 76) h rfl rfl
    · exact o0_ok (b := 77) h rfl rfl
    · exact o0_ok (b := 78) h rfl rfl
  | iload_n k =>
    rcases fin4_c k with rfl | rfl | rfl | rfl
    · exact o0_ok (b := 26) h rfl rfl
    · exact o0_ok (b := 27) h rfl rfl
    · exact o0_ok (b := 28) h rfl rfl
    · exact o0_ok (b := 29) h rfl rfl
  | istore_n k =>
    rcases fin4_c k with rfl | rfl | rfl | rfl
    · exact o0_ok (b := 59) h rfl rfl
    · exact o0_ok (b := 60) h rfl rfl
    · exact o0_ok (b := 61) h rfl rfl
    · exact o0_ok (b := 62) h rfl rfl
  | lload_n k =>
    rcases fin4_c k with rfl | rfl | rfl | rfl
    · exact o0_ok (b := 30) h rfl rfl
    · exact o0_ok (b := 31) h rfl rfl
    · exact o0_ok (b := 32) h rfl rfl
    · exact o0_ok (b := 33) h rfl rfl
  | lstore_n k =>
    rcases fin4_c k with rfl | rfl | rfl | rfl
    · exact o0_ok (b := 63) h rfl rfl
    · exact o0_ok (b := 64) h rfl rfl
    · exact o0_ok (b := 65) h rfl rfl
    · exact o0_ok (b := 66) h rfl rfl
  | lconst k =>
    rcases fin2_c k with rfl | rfl
    · exact o0_ok (b := 9) h rfl rfl
    · exact o0_ok (b := 10) h rfl rfl
  | iconst z =>
    have h : (decide (-1 ≤ z) && decide (z ≤ 5) && o0 (pkA cc) cc.size pc len (z + 3).toNat) = true := h
    simp only [Bool.and_eq_true, decide_eq_true_eq] at h
    obtain ⟨⟨h1, h2⟩, h⟩ := h
    rcases (show z = -1 ∨ z = 0 ∨ z = 1 ∨ z = 2 ∨ z = 3 ∨ z = 4 ∨ z = 5 by omega) with rfl | rfl | rfl | rfl | rfl | rfl | rfl
    · exact o0_ok (b := 2) h rfl rfl
    · exact o0_ok (b := 3) h rfl rfl
    · exact o0_ok (b := 4) h rfl rfl
    · exact o0_ok (b := 5) h rfl rfl
    · exact o0_ok (b := 6) h rfl rfl
    · exact o0_ok (b := 7) h rfl rfl
    · exact o0_ok (b := 8) h rfl rfl
  | bipush z => exact o3_ok (b := 16) Instr.bipush h rfl rfl
  | sipush z => exact o4_ok (b := 17) Instr.sipush h rfl rfl
  | goto z => exact o4_ok (b := 167) Instr.goto h rfl rfl
  | ifCond c z =>
    cases c with
    | eq => exact o4_ok (b := 153) (Instr.ifCond .eq) h rfl rfl
    | ne => exact o4_ok (b := 154) (Instr.ifCond .ne) h rfl rfl
    | lt => exact o4_ok (b := 155) (Instr.ifCond .lt) h rfl rfl
    | ge => exact o4_ok (b := 156) (Instr.ifCond .ge) h rfl rfl
    | gt => exact o4_ok (b := 157) (Instr.ifCond .gt) h rfl rfl
    | le => exact o4_ok (b := 158) (Instr.ifCond .le) h rfl rfl
  | if_icmp c z =>
    cases c with
    | eq => exact o4_ok (b := 159) (Instr.if_icmp .eq) h rfl rfl
    | ne => exact o4_ok (b := 160) (Instr.if_icmp .ne) h rfl rfl
    | lt => exact o4_ok (b := 161) (Instr.if_icmp .lt) h rfl rfl
    | ge => exact o4_ok (b := 162) (Instr.if_icmp .ge) h rfl rfl
    | gt => exact o4_ok (b := 163) (Instr.if_icmp .gt) h rfl rfl
    | le => exact o4_ok (b := 164) (Instr.if_icmp .le) h rfl rfl
  | iinc v z => exact o5_ok (b := 132) h rfl rfl
  | _ => exact of_decide_eq_true h
def bOKf (own : Nat) (cc : ByteArray) (n sz nL : Nat) (rt : Option FieldType) (ini : Bool) (nd : Nat) : Nat → List mRow → Bool
  | _, [] => true
  | pc, (ins, len, a, b, z, ts) :: rows => dOK cc n sz pc ins len && lenOK ins len && xOK own nL rt ini nd pc ins a b z ts && bOKf own cc n sz nL rt ini nd (pc + len) rows
theorem bOKf_ok {own : Nat} {cc : ByteArray} {nL : Nat} {rt : Option FieldType} {ini : Bool} {nd : Nat} : ∀ {rows : List mRow} {pc : Nat}, bOKf own cc (pkA cc) cc.size nL rt ini nd pc rows = true → bOK own cc nL rt ini nd pc rows = true
  | [], _, _ => rfl
  | (ins, len, a, b, z, ts) :: rows, pc, h => by
    have h : (dOK cc (pkA cc) cc.size pc ins len && lenOK ins len && xOK own nL rt ini nd pc ins a b z ts && bOKf own cc (pkA cc) cc.size nL rt ini nd (pc + len) rows) = true := h
    show (decide (decode cc pc = .ok (ins, len)) && lenOK ins len && xOK own nL rt ini nd pc ins a b z ts && bOK own cc nL rt ini nd (pc + len) rows) = true
    simp only [Bool.and_eq_true] at h ⊢
    obtain ⟨⟨⟨h1, h2⟩, h3⟩, h4⟩ := h
    exact ⟨⟨⟨decide_eq_true (dOK_ok h1), h2⟩, h3⟩, bOKf_ok h4⟩
