/-! PURE PROOFS 8: charters copied and changed -/
theorem mcpy_ne (m : mMem) (s : Nat) (sp : Int) {k d : Nat} (dp n : Int) (h : k ≠ d) : mcpy m s sp d dp n k = m k := by
  funext i
  unfold mcpy
  rw [if_neg (fun q => h q.1)]
theorem mcpy_at (m : mMem) (s d : Nat) {n i : Int} (h0 : 0 ≤ i) (h1 : i < n) : mcpy m s 0 d 0 n d i = m s i := by
  unfold mcpy
  rw [if_pos ⟨rfl, h0, by omega⟩]
  congr 1
  omega
def cpy7 (M : mMem) (b c : Nat) : mMem := mcpy (mcpy (mcpy (mcpy (mcpy (mcpy (mcpy M (c + 1) 0 (b + 1) 0 36) (c + 6) 0 (b + 6) 0 25) (c + 7) 0 (b + 7) 0 25) (c + 2) 0 (b + 2) 0 4) (c + 3) 0 (b + 3) 0 20) (c + 4) 0 (b + 4) 0 8) (c + 5) 0 (b + 5) 0 8
def cpyM (M : mMem) (b c : Nat) : mMem := mupd (mupd (cpy7 M b c) b 5 (cpy7 M b c c 5)) b 6 (mupd (cpy7 M b c) b 5 (cpy7 M b c c 5) c 6)
def cpP (b c : Nat) : Prop := (b = 1 ∧ c = 9) ∨ (b = 9 ∧ c = 1) ∨ (b = 18 ∧ c = 1) ∨ (b = 27 ∧ c = 1) ∨ (b = 1 ∧ c = 18) ∨ (b = 1 ∧ c = 27)
theorem R_copyFrom (d : Nat) (M : mMem) (b c : Nat) (h : cpP b c) : mR3 (d + 1) 2 [vr b, vr c] (S0, M) (none, (S0, cpyM M b c)) := by
  refine ⟨⟨by decide, Nat.le_of_ble_eq_true rfl⟩, fun K hK => q_C_copyFrom_0 hK b c M h ?_⟩
  exact ⟨by decide, by decide, by decide, by decide, by decide, by decide, by decide, mret_n rfl⟩
theorem cpy7_ne (M : mMem) {b c k : Nat} (h : k ≤ b ∨ b + 8 ≤ k) : cpy7 M b c k = M k := by
  unfold cpy7
  rw [mcpy_ne _ _ _ _ _ (by omega), mcpy_ne _ _ _ _ _ (by omega), mcpy_ne _ _ _ _ _ (by omega), mcpy_ne _ _ _ _ _ (by omega), mcpy_ne _ _ _ _ _ (by omega), mcpy_ne _ _ _ _ _ (by omega), mcpy_ne _ _ _ _ _ (by omega)]
theorem cpy_ne (M : mMem) {b c k : Nat} (h : k < b ∨ b + 8 ≤ k) : cpyM M b c k = M k := by
  unfold cpyM
  rw [mupd_ne _ _ _ (by omega), mupd_ne _ _ _ (by omega), cpy7_ne M (by omega)]
theorem cpy_r (M : mMem) {b c k : Nat} (h : k ≠ b) : cpyM M b c k = cpy7 M b c k := by
  unfold cpyM
  rw [mupd_ne _ _ _ h, mupd_ne _ _ _ h]
theorem cpy_5 (M : mMem) {b c : Nat} (h : b + 8 ≤ c ∨ c + 8 ≤ b) : cpyM M b c b 5 = M c 5 := by
  unfold cpyM
  rw [mupd_at, mupd_at]
  unfold fup
  rw [if_neg (by decide), if_pos rfl, cpy7_ne M (by omega)]
theorem cpy_6 (M : mMem) {b c : Nat} (h : b + 8 ≤ c ∨ c + 8 ≤ b) : cpyM M b c b 6 = M c 6 := by
  unfold cpyM
  rw [mupd_at]
  unfold fup
  rw [if_pos rfl, mupd_ne _ _ _ (by omega), cpy7_ne M (by omega)]
theorem cpy_f (M : mMem) {b c : Nat} {i : Int} (h5 : i ≠ 5) (h6 : i ≠ 6) : cpyM M b c b i = M b i := by
  unfold cpyM
  rw [mupd_at, mupd_at]
  unfold fup
  rw [if_neg h6, if_neg h5, cpy7_ne M (by omega)]
theorem cpy_1 (M : mMem) {b c : Nat} (h : b + 8 ≤ c ∨ c + 8 ≤ b) {i : Int} (h0 : 0 ≤ i) (h1 : i < 36) : cpyM M b c (b + 1) i = M (c + 1) i := by
  rw [cpy_r M (by omega)]
  unfold cpy7
  rw [mcpy_ne _ _ _ _ _ (by omega), mcpy_ne _ _ _ _ _ (by omega), mcpy_ne _ _ _ _ _ (by omega), mcpy_ne _ _ _ _ _ (by omega), mcpy_ne _ _ _ _ _ (by omega), mcpy_ne _ _ _ _ _ (by omega), mcpy_at _ _ _ h0 h1]
theorem cpy_6r (M : mMem) {b c : Nat} (h : b + 8 ≤ c ∨ c + 8 ≤ b) {i : Int} (h0 : 0 ≤ i) (h1 : i < 25) : cpyM M b c (b + 6) i = M (c + 6) i := by
  rw [cpy_r M (by omega)]
  unfold cpy7
  rw [mcpy_ne _ _ _ _ _ (by omega), mcpy_ne _ _ _ _ _ (by omega), mcpy_ne _ _ _ _ _ (by omega), mcpy_ne _ _ _ _ _ (by omega), mcpy_ne _ _ _ _ _ (by omega), mcpy_at _ _ _ h0 h1, mcpy_ne _ _ _ _ _ (by omega)]
theorem cpy_7r (M : mMem) {b c : Nat} (h : b + 8 ≤ c ∨ c + 8 ≤ b) {i : Int} (h0 : 0 ≤ i) (h1 : i < 25) : cpyM M b c (b + 7) i = M (c + 7) i := by
  rw [cpy_r M (by omega)]
  unfold cpy7
  rw [mcpy_ne _ _ _ _ _ (by omega), mcpy_ne _ _ _ _ _ (by omega), mcpy_ne _ _ _ _ _ (by omega), mcpy_ne _ _ _ _ _ (by omega), mcpy_at _ _ _ h0 h1, mcpy_ne _ _ _ _ _ (by omega), mcpy_ne _ _ _ _ _ (by omega)]
theorem cpy_2 (M : mMem) {b c : Nat} (h : b + 8 ≤ c ∨ c + 8 ≤ b) {i : Int} (h0 : 0 ≤ i) (h1 : i < 4) : cpyM M b c (b + 2) i = M (c + 2) i := by
  rw [cpy_r M (by omega)]
  unfold cpy7
  rw [mcpy_ne _ _ _ _ _ (by omega), mcpy_ne _ _ _ _ _ (by omega), mcpy_ne _ _ _ _ _ (by omega), mcpy_at _ _ _ h0 h1, mcpy_ne _ _ _ _ _ (by omega), mcpy_ne _ _ _ _ _ (by omega), mcpy_ne _ _ _ _ _ (by omega)]
theorem cpy_3 (M : mMem) {b c : Nat} (h : b + 8 ≤ c ∨ c + 8 ≤ b) {i : Int} (h0 : 0 ≤ i) (h1 : i < 20) : cpyM M b c (b + 3) i = M (c + 3) i := by
  rw [cpy_r M (by omega)]
  unfold cpy7
  rw [mcpy_ne _ _ _ _ _ (by omega), mcpy_ne _ _ _ _ _ (by omega), mcpy_at _ _ _ h0 h1, mcpy_ne _ _ _ _ _ (by omega), mcpy_ne _ _ _ _ _ (by omega), mcpy_ne _ _ _ _ _ (by omega), mcpy_ne _ _ _ _ _ (by omega)]
theorem cpy_4 (M : mMem) {b c : Nat} (h : b + 8 ≤ c ∨ c + 8 ≤ b) {i : Int} (h0 : 0 ≤ i) (h1 : i < 8) : cpyM M b c (b + 4) i = M (c + 4) i := by
  rw [cpy_r M (by omega)]
  unfold cpy7
  rw [mcpy_ne _ _ _ _ _ (by omega), mcpy_at _ _ _ h0 h1, mcpy_ne _ _ _ _ _ (by omega), mcpy_ne _ _ _ _ _ (by omega), mcpy_ne _ _ _ _ _ (by omega), mcpy_ne _ _ _ _ _ (by omega), mcpy_ne _ _ _ _ _ (by omega)]
theorem cpy_5r (M : mMem) {b c : Nat} (h : b + 8 ≤ c ∨ c + 8 ≤ b) {i : Int} (h0 : 0 ≤ i) (h1 : i < 8) : cpyM M b c (b + 5) i = M (c + 5) i := by
  rw [cpy_r M (by omega)]
  unfold cpy7
  rw [mcpy_at _ _ _ h0 h1, mcpy_ne _ _ _ _ _ (by omega), mcpy_ne _ _ _ _ _ (by omega), mcpy_ne _ _ _ _ _ (by omega), mcpy_ne _ _ _ _ _ (by omega), mcpy_ne _ _ _ _ _ (by omega), mcpy_ne _ _ _ _ _ (by omega)]
theorem cpP_d {b c : Nat} (h : cpP b c) : b + 8 ≤ c ∨ c + 8 ≤ b := by
  unfold cpP at h
  omega
def planOK (P Q : Int → Int) (n : Int) : Prop := ∀ i, 0 ≤ i → i < n → (0 ≤ P i ∧ P i < 36) ∧ 1 ≤ Q i ∧ Q i ≤ 3
def spOK (s : Int → Int) : Prop := ∀ c, 1 ≤ c → c ≤ 3 → 0 ≤ s c ∧ s c ≤ 99
/-- the charter at b is sound -/
def Cht (M : mMem) (b : Nat) : Prop := Tal M b ∧ (0 ≤ M b 5 ∧ M b 5 ≤ 5) ∧ lawOK (M (b + 3)) (M b 5) ∧ (0 ≤ M b 6 ∧ M b 6 ≤ 8) ∧ planOK (M (b + 4)) (M (b + 5)) (M b 6) ∧ spOK (M (b + 2))
/-- b has what c has in the memory N -/
def Same (M : mMem) (b : Nat) (N : mMem) (c : Nat) : Prop := (∀ i : Int, 0 ≤ i → i < 36 → M (b + 1) i = N (c + 1) i) ∧ (∀ i : Int, 0 ≤ i → i < 4 → M (b + 2) i = N (c + 2) i) ∧ (∀ i : Int, 0 ≤ i → i < 20 → M (b + 3) i = N (c + 3) i) ∧ (∀ i : Int, 0 ≤ i → i < 8 → M (b + 4) i = N (c + 4) i) ∧ (∀ i : Int, 0 ≤ i → i < 8 → M (b + 5) i = N (c + 5) i) ∧ M b 5 = N c 5 ∧ M b 6 = N c 6
theorem Tal_of {M N : mMem} {b c : Nat} (h : Tal N c) (h1 : ∀ i : Int, 0 ≤ i → i < 36 → M (b + 1) i = N (c + 1) i) (h6 : ∀ i : Int, 0 ≤ i → i < 25 → M (b + 6) i = N (c + 6) i) (h7 : ∀ i : Int, 0 ≤ i → i < 25 → M (b + 7) i = N (c + 7) i) : Tal M b := by
  refine ⟨fun i q0 q1 => ?_, fun a e ha he => ?_, fun a e ha he => ?_⟩
  · rw [h1 i q0 q1]
    exact h.1 i q0 q1
  · rw [h6 _ (by omega) (by omega), h.2.1 a e ha he]
    exact (cB_cong h1 a e).symm
  · rw [h7 _ (by omega) (by omega), h.2.2 a e ha he]
    exact (cA_cong h1 a e).symm
theorem Cht_of {M N : mMem} {b c : Nat} (h : Cht N c) (s : Same M b N c) (h6 : ∀ i : Int, 0 ≤ i → i < 25 → M (b + 6) i = N (c + 6) i) (h7 : ∀ i : Int, 0 ≤ i → i < 25 → M (b + 7) i = N (c + 7) i) : Cht M b := by
  obtain ⟨t, l0, l1, p0, p1, sp⟩ := h
  obtain ⟨s1, s2, s3, s4, s5, f5, f6⟩ := s
  refine ⟨Tal_of t s1 h6 h7, by omega, ?_, by omega, ?_, ?_⟩
  · intro l q0 q1
    have h0 := l1 l q0 (by omega)
    rw [s3 _ (by omega) (by omega), s3 (4 * l + 1) (by omega) (by omega), s3 (4 * l + 2) (by omega) (by omega), s3 (4 * l + 3) (by omega) (by omega)]
    exact h0
  · intro i q0 q1
    have h0 := p1 i q0 (by omega)
    rw [s4 _ q0 (by omega), s5 _ q0 (by omega)]
    exact h0
  · intro c' q0 q1
    rw [s2 _ (by omega) (by omega)]
    exact sp c' q0 q1
theorem cpy_same (M : mMem) {b c : Nat} (h : cpP b c) : Same (cpyM M b c) b M c := by
  have hd := cpP_d h
  exact ⟨fun i h0 h1 => cpy_1 M hd h0 h1, fun i h0 h1 => cpy_2 M hd h0 h1, fun i h0 h1 => cpy_3 M hd h0 h1, fun i h0 h1 => cpy_4 M hd h0 h1, fun i h0 h1 => cpy_5r M hd h0 h1, cpy_5 M hd, cpy_6 M hd⟩
theorem cpy_cht {M : mMem} {b c : Nat} (h : cpP b c) (hc : Cht M c) : Cht (cpyM M b c) b :=
  Cht_of hc (cpy_same M h) (fun _ h0 h1 => cpy_6r M (cpP_d h) h0 h1) (fun _ h0 h1 => cpy_7r M (cpP_d h) h0 h1)
/-- a charter whose memory is as it was -/
theorem Cht_eq {M N : mMem} {b : Nat} (h : Cht N b) (e : ∀ k, b ≤ k → k < b + 8 → M k = N k) : Cht M b := by
  refine Cht_of h ⟨fun i _ _ => by rw [e (b + 1) (by omega) (by omega)], fun i _ _ => by rw [e (b + 2) (by omega) (by omega)], fun i _ _ => by rw [e (b + 3) (by omega) (by omega)], fun i _ _ => by rw [e (b + 4) (by omega) (by omega)], fun i _ _ => by rw [e (b + 5) (by omega) (by omega)], by rw [e b (by omega) (by omega)], by rw [e b (by omega) (by omega)]⟩ (fun i _ _ => by rw [e (b + 6) (by omega) (by omega)]) (fun i _ _ => by rw [e (b + 7) (by omega) (by omega)])
theorem put_cht {M : mMem} {b : Nat} {t v : Int} (h : Cht M b) (ht : 0 ≤ t ∧ t < 36) (hv : 0 ≤ v ∧ v ≤ 4) : Cht (putM M b t v) b := by
  obtain ⟨t0, l0, l1, p0, p1, sp⟩ := h
  have e0 := put_ne M b t v (k := b) (by omega) (by omega) (by omega)
  have e2 := put_ne M b t v (k := b + 2) (by omega) (by omega) (by omega)
  have e3 := put_ne M b t v (k := b + 3) (by omega) (by omega) (by omega)
  have e4 := put_ne M b t v (k := b + 4) (by omega) (by omega) (by omega)
  have e5 := put_ne M b t v (k := b + 5) (by omega) (by omega) (by omega)
  unfold Cht
  rw [e0, e2, e3, e4, e5]
  exact ⟨put_tal t0 ht hv, l0, l1, p0, p1, sp⟩
