section
/-! PURE PROOFS 60: a first call: text -/
theorem mclear_ne (M : mMem) {k j : Nat} (h : j < k ∨ k + 8 ≤ j) : mclear M k j = M j := by
  unfold mclear
  rw [mupd_ne _ _ _ (by omega), mupd_ne _ _ _ (by omega), mfill_ne _ _ _ (by omega), mupd_ne _ _ _ (by omega), mupd_ne _ _ _ (by omega), mfill_ne _ _ _ (by omega), mfill_ne _ _ _ (by omega), mfill_ne _ _ _ (by omega)]
theorem isCh9 : isCh S0 9 := by
  unfold isCh
  decide +kernel
theorem R_byteAt (d : Nat) (M : mMem) (k : Int) (hk : 0 ≤ k) (h : M 53 5 ≤ 160) : mR3 (d + 1) 118 [vr 53, vi k] (S0, M) (some (vi (if M 53 5 ≤ k then -4 else M 56 k)), (S0, M)) := by
  refine ⟨⟨by decide, Nat.le_of_ble_eq_true rfl⟩, fun K hK => q_M_byteAt_0 hK k M ⟨fun q => mret_i ?_ rfl, fun q => mIn_i hk (by omega) (mret_i ?_ rfl)⟩⟩
  · rw [if_pos q]
  · rw [if_neg q]
end
section
/-! PURE PROOFS 61: need comes to its end: the class -/
def PairU (y1 y2 : Nat) (as : List mVal) (M : mMem) : Prop := ∃ v v2 m1 m2, mR3 10 y1 (vr 0 :: as) (S0, M) (some (vi v), (S0, m1)) ∧ mR3 10 y2 (vr 53 :: as) (S0, m1) (some (vi v2), (S0, m2)) ∧ Inv m2
theorem T_cong2 {m M : mMem} {f s r : Int → Int} (h : TrC m M f s) (e : ∀ i : Int, 1 ≤ i → i ≤ 3 → s i = r i) : TrC m M f r :=
  ⟨h.1, h.2.1, fun i a b => by rw [h.2.2.1 i a b, e i a b], h.2.2.2⟩
theorem T_back {m M : mMem} {g s : Int → Int} {t c : Int} (h : TrC m M (fup g t c) (fup s c (s c - 1))) (ht : 0 ≤ t ∧ t < 36) (hc : 1 ≤ c ∧ c ≤ 3) (g0 : g t = 0) (s9 : 0 ≤ s c ∧ s c ≤ 99) : TrC (putM (mupd m (9 + 2) (m (9 + 1) t) (w32 (m (9 + 2) (m (9 + 1) t) + 1))) 9 t 0) M g s := by
  have e1 : m (9 + 1) t = c := by
    have q : m 10 t = fup g t c t := h.2.1 t ht.1 ht.2
    rw [fup_at] at q
    exact q
  have e2 : m (9 + 2) c = s c - 1 := by
    have q : m 11 c = fup s c (s c - 1) c := h.2.2.1 c hc.1 hc.2
    rw [fup_at] at q
    exact q
  rw [e1, e2, w32_s (z := s c - 1 + 1) (by omega) (by omega), show s c - 1 + 1 = s c by omega]
  have t1 : TrC (mupd m (9 + 2) c (s c)) M (fup g t c) s := by
    obtain ⟨k, h1, h2, h3, h4, h5, h6, h7⟩ := h
    have u : ∀ j : Nat, j ≠ 11 → mupd m (9 + 2) c (s c) j = m j := fun j hj => mupd_ne _ _ _ hj
    have u11 : mupd m (9 + 2) c (s c) 11 = fup (m 11) c (s c) := mupd_at m 11 c (s c)
    have sp : ∀ x : Int, 1 ≤ x → x ≤ 3 → mupd m (9 + 2) c (s c) 11 x = s x := fun x a b => by
      rw [u11]
      unfold fup
      split
      · rename_i z
        rw [z]
      · rename_i z
        rw [h2 x a b, fup_ne _ _ z]
    refine ⟨Cht_mk k (u 10 (by decide)) (u 15 (by decide)) (u 16 (by decide)) ?_ ?_ ?_ ?_ (fun x a b => ?_), ?_, sp, ?_, ?_, ?_, ?_, ?_⟩
    · rw [u 9 (by decide)]
      exact k.2.1
    · rw [u 9 (by decide), u (9 + 3) (by decide)]
      exact k.2.2.1
    · rw [u 9 (by decide)]
      exact k.2.2.2.1
    · rw [u 9 (by decide), u (9 + 4) (by decide), u (9 + 5) (by decide)]
      exact k.2.2.2.2.1
    · have q := sp x a b
      have r : mupd m (9 + 2) c (s c) (9 + 2) x = s x := q
      rw [r]
      by_cases z : x = c
      · rw [z]
        exact s9
      · have w : m 11 x = s x := by rw [h2 x a b, fup_ne _ _ z]
        have y : 0 ≤ m 11 x ∧ m 11 x ≤ 99 := k.2.2.2.2.2 x a b
        omega
    · rw [u 10 (by decide)]
      exact h1
    · rw [u 12 (by decide)]
      exact h3
    · rw [u 9 (by decide)]
      exact h4
    · rw [u 13 (by decide)]
      exact h5
    · rw [u 14 (by decide)]
      exact h6
    · rw [u 9 (by decide)]
      exact h7
  refine T_cong (T_put t1 ht (v := 0) (by omega)) (fun y _ _ => ?_)
  unfold fup
  split
  · rename_i z
    rw [z, g0]
  · rfl
theorem L_hsa (d : Nat) {M m : mMem} {g s : Int → Int} {l t i : Int} (hl : 0 ≤ l ∧ l < M 1 5) (ht : 0 ≤ t ∧ t < 36) (hi : 0 ≤ i ∧ i < 2) (h : TrC m M g s) (hm : FrL m M) : mI3 (d + 3) 100 [vr 0, vi l, vi t, vi i] m (fun v m' => (v = 0 ∨ v = 1) ∧ TrC m' M g s ∧ FrL m' M) := by
  refine mI3_i ⟨by decide, Nat.le_of_ble_eq_true rfl⟩ (fun K hK => q_L_holdsByStitchAt_0 hK l t i m ?_)
  have step : ∀ c : Int, 1 ≤ c → c ≤ 3 → (∀ m', TrC m' M g s → FrL m' M → K 3 [(0, vr 0), (1, vi l), (2, vi t), (3, vi i), (4, vi (c + 1))] [] (S0, m')) → ∀ m', TrC m' M g s → FrL m' M → K 3 [(0, vr 0), (1, vi l), (2, vi t), (3, vi i), (4, vi c)] [] (S0, m') := by
    intro c c1 c3 nx m' h0 h1
    have ew : w32 (c + 1) = c + 1 := w32_s (by omega) (by omega)
    refine q_L_holdsByStitchAt_3 hK _ _ _ _ m' (br_f (by omega) ⟨_, _, T_can (d + 1) h0 ht ⟨c1, c3⟩, ?_⟩)
    rw [ew]
    refine ⟨fun _ => nx m' h0 h1, fun q => ?_⟩
    have q := b2_n0.mp q
    have t1 := T_put h0 ht (v := c) (by omega)
    have t2 : TrC (putM (putM m' 9 t c) 9 t 0) M g s := T_cong (T_put t1 ht (v := 0) (by omega)) (fun y _ _ => by
      unfold fup
      split
      · rename_i e
        rw [e, q.1]
      · rfl)
    have fr : FrL (putM (putM m' 9 t c) 9 t 0) M := FrL_row h1 (fun k a _ _ _ _ _ => by rw [put_ne _ _ _ _ (by omega) (by omega) (by omega), put_ne _ _ _ _ (by omega) (by omega) (by omega)])
    have k48 : ∀ s0 : Int, K 48 [(0, vr 0), (1, vi l), (2, vi t), (3, vi i), (4, vi c)] [vi s0] (S0, putM m' 9 t c) := by
      intro s0
      refine q_L_holdsByStitchAt_48 hK _ _ _ _ s0 _ ⟨_, R_put d _ 9 (by omega) t 0 ht (by omega) t1.1.1.1, fun _ => ?_, fun _ => ⟨_, _, R_stitchCode (d + 1) _ ht (by omega), mIn_i hi.1 (by omega) (rI_i ⟨Or.inr rfl, T_eq t2 (fun k a b => mupd_ne _ _ _ (by omega)) (by rw [mupd_ne _ _ _ (by decide)]) (by rw [mupd_ne _ _ _ (by decide)]), FrL_row fr (fun k _ _ a _ _ _ => mupd_ne _ _ _ a)⟩)⟩⟩
      rw [ew]
      exact nx _ t2 fr
    exact ⟨_, R_put d m' 9 (by omega) t c ht (by omega) h0.1.1.1, _, _, T_reads d t1 hl, fun _ => k48 0, fun _ => k48 1⟩
  refine step 1 (by decide) (by decide) (fun m2 a b => ?_) m h hm
  refine step 2 (by decide) (by decide) (fun m3 a b => ?_) m2 a b
  refine step 3 (by decide) (by decide) (fun m4 a b => ?_) m3 a b
  exact q_L_holdsByStitchAt_3 hK _ _ _ _ m4 (br_t (by decide) (rI_i ⟨Or.inl rfl, a, b⟩))
theorem R_pbr (d : Nat) (m : mMem) {x : Int} (hx : 0 ≤ x ∧ x < 36) : mR3 (d + 2) 101 [vi x] (S0, m) (some (vi (6 * (x % 6) + x / 6)), (S0, m)) := by
  refine ⟨⟨by decide, Nat.le_of_ble_eq_true rfl⟩, fun K hK => q_L_placeByRows_0 hK x m ?_⟩
  rw [jrem_nn hx.1, jdiv_nn hx.1 (by omega) (by omega)]
  exact ⟨_, _, R_place d m (x := x % 6) (y := x / 6) (by omega) (by omega), mret_i rfl rfl⟩
theorem L_one (d : Nat) {M m : mMem} {g s : Int → Int} {l : Int} (hl : 0 ≤ l ∧ l < M 1 5) (h : TrC m M g s) (hm : FrL m M) : mI3 (d + 4) 98 [vr 0, vi l] m (fun v m' => (v = 0 ∨ v = 1) ∧ TrC m' M g s ∧ FrL m' M) := by
  refine mI3_i ⟨by decide, Nat.le_of_ble_eq_true rfl⟩ (fun K hK => q_L_holdsByOne_0 hK l m ?_)
  have loop : ∀ (j i : Nat), i + j = 36 → ∀ m', TrC m' M g s → FrL m' M → K 2 [(0, vr 0), (1, vi l), (2, vi (i : Int))] [] (S0, m') := by
    intro j
    induction j with
    | zero =>
      intro i hi m' a b
      rw [show i = 36 by omega]
      exact q_L_holdsByOne_2 hK _ _ m' (br_t (by decide) (rI_i ⟨Or.inl rfl, a, b⟩))
    | succ j ih =>
      intro i hi m' a b
      have ew : w32 ((i : Int) + 1) = ((i + 1 : Nat) : Int) := by rw [w32_s (by omega) (by omega)]; omega
      refine q_L_holdsByOne_2 hK _ _ m' (br_f (by omega) ⟨_, _, R_pbr (d + 1) m' (x := (i : Int)) (by omega), cI (L_hsa d hl (t := 6 * ((i : Int) % 6) + (i : Int) / 6) (i := 0) (by omega) (by omega) a b) (fun v m2 p => ?_)⟩)
      rw [ew]
      exact ⟨fun _ => ih (i + 1) (by omega) m2 p.2.1 p.2.2, fun _ => rI_i ⟨Or.inr rfl, p.2⟩⟩
  exact loop 36 0 (by omega) m h hm
theorem L_two (d : Nat) {M m : mMem} {g s : Int → Int} {l : Int} (hl : 0 ≤ l ∧ l < M 1 5) (s9 : ∀ c : Int, 1 ≤ c → c ≤ 3 → 0 ≤ s c ∧ s c ≤ 99) (h : TrC m M g s) (hm : FrL m M) : mI3 (d + 4) 99 [vr 0, vi l] m (fun v m' => (v = 0 ∨ v = 1) ∧ FrL m' M) := by
  refine mI3_i ⟨by decide, Nat.le_of_ble_eq_true rfl⟩ (fun K hK => q_L_holdsByTwo_0 hK l m ?_)
  have step : ∀ (x t c : Int), 0 ≤ t ∧ t < 36 → 1 ≤ c → c ≤ 3 → (∀ m', TrC m' M g s → FrL m' M → K 16 [(0, vr 0), (1, vi l), (2, vi x), (3, vi t), (4, vi (c + 1))] [] (S0, m')) → ∀ m', TrC m' M g s → FrL m' M → K 16 [(0, vr 0), (1, vi l), (2, vi x), (3, vi t), (4, vi c)] [] (S0, m') := by
    intro x t c ht c1 c3 nx m' h0 h1
    have ew : w32 (c + 1) = c + 1 := w32_s (by omega) (by omega)
    have j1 : jdiv t 6 = t / 6 := jdiv_nn ht.1 (by omega) (by omega)
    have j2 : jrem t 6 = t % 6 := jrem_nn ht.1
    have w6 : w32 (t + 6) = t + 6 := w32_s (by omega) (by omega)
    have w1 : w32 (t + 1) = t + 1 := w32_s (by omega) (by omega)
    refine q_L_holdsByTwo_16 hK _ _ _ _ m' (br_f (by omega) ⟨_, _, T_can (d + 2) h0 ht ⟨c1, c3⟩, ?_⟩)
    rw [ew]
    refine ⟨fun _ => nx m' h0 h1, fun q => ?_⟩
    have q := b2_n0.mp q
    have t1 := T_take h0 ht ⟨c1, c3⟩ q.2
    have f1 : FrL (takeM m' 9 t c) M := FrL_row h1 (fun k a _ _ _ _ _ => takeM_ne m' 9 t c (by omega) (by omega) (by omega) (by omega))
    have back : ∀ m2, TrC m2 M (fup g t c) (fup s c (s c - 1)) → FrL m2 M → K 112 [(0, vr 0), (1, vi l), (2, vi x), (3, vi t), (4, vi c)] [] (S0, m2) := by
      intro m2 a b
      have mt : m2 (9 + 1) t = c := by
        have z : m2 10 t = fup g t c t := a.2.1 t ht.1 ht.2
        rw [fup_at] at z
        exact z
      refine q_L_holdsByTwo_112 hK _ _ _ _ m2 ⟨_, R_takeBack d m2 9 (by omega) t ht a.1.1.1 (by rw [mt]; exact c3), ?_⟩
      rw [ew]
      refine nx _ (T_back a ht ⟨c1, c3⟩ q.1 (s9 c c1 c3)) (FrL_row b (fun k z _ _ _ _ _ => ?_))
      rw [put_ne _ _ _ _ (by omega) (by omega) (by omega), mupd_ne _ _ _ (by omega)]
    have k83 : ∀ s0 m2, TrC m2 M (fup g t c) (fup s c (s c - 1)) → FrL m2 M → K 83 [(0, vr 0), (1, vi l), (2, vi x), (3, vi t), (4, vi c)] [vi s0] (S0, m2) := by
      intro s0 m2 a b
      refine q_L_holdsByTwo_83 hK _ _ _ _ s0 m2 ⟨fun _ => rI_i ⟨Or.inr rfl, b⟩, fun _ => ?_⟩
      rw [j2, w1]
      exact ⟨fun _ => back m2 a b, fun y => cI (L_hsa d hl (t := t + 1) (i := 1) (by omega) (by omega) a b) (fun v m3 p => ⟨fun _ => back m3 p.2.1 p.2.2, fun _ => rI_i ⟨Or.inr rfl, p.2.2⟩⟩)⟩
    refine ⟨_, R_take d m' 9 (by omega) t c ht ⟨c1, c3⟩ h0.1.1.1, _, _, R_stitchCode (d + 2) _ ht (by omega), ?_⟩
    show (5 ≤ jdiv t 6 → K 83 _ _ (S0, mupd (takeM m' 9 t c) 39 0 _)) ∧ _
    have t2 : TrC (mupd (takeM m' 9 t c) 39 0 (100 * (t / 6) + 10 * (t % 6) + c)) M (fup g t c) (fup s c (s c - 1)) := T_eq t1 (fun k a b => mupd_ne _ _ _ (by omega)) (by rw [mupd_ne _ _ _ (by decide)]) (by rw [mupd_ne _ _ _ (by decide)])
    have f2 : FrL (mupd (takeM m' 9 t c) 39 0 (100 * (t / 6) + 10 * (t % 6) + c)) M := FrL_row f1 (fun k _ _ a _ _ _ => mupd_ne _ _ _ a)
    refine ⟨fun _ => k83 0 _ t2 f2, fun y => ?_⟩
    rw [j1] at y
    rw [w6]
    exact cI (L_hsa d hl (t := t + 6) (i := 1) (by omega) (by omega) t2 f2) (fun v m3 p => ⟨fun _ => k83 0 m3 p.2.1 p.2.2, fun _ => k83 1 m3 p.2.1 p.2.2⟩)
  have loop : ∀ (j i : Nat), i + j = 36 → ∀ m', TrC m' M g s → FrL m' M → K 2 [(0, vr 0), (1, vi l), (2, vi (i : Int))] [] (S0, m') := by
    intro j
    induction j with
    | zero =>
      intro i hi m' a b
      rw [show i = 36 by omega]
      exact q_L_holdsByTwo_2 hK _ _ m' (br_t (by decide) (rI_i ⟨Or.inl rfl, b⟩))
    | succ j ih =>
      intro i hi m' a b
      have ew : w32 ((i : Int) + 1) = ((i + 1 : Nat) : Int) := by rw [w32_s (by omega) (by omega)]; omega
      have tb : 0 ≤ 6 * ((i : Int) % 6) + (i : Int) / 6 ∧ 6 * ((i : Int) % 6) + (i : Int) / 6 < 36 := by omega
      refine q_L_holdsByTwo_2 hK _ _ m' (br_f (by omega) ⟨_, _, R_pbr (d + 1) m' (x := (i : Int)) (by omega), ?_⟩)
      refine step _ _ 1 tb (by decide) (by decide) (fun m2 a b => ?_) m' a b
      refine step _ _ 2 tb (by decide) (by decide) (fun m3 a b => ?_) m2 a b
      refine step _ _ 3 tb (by decide) (by decide) (fun m4 a b => ?_) m3 a b
      refine q_L_holdsByTwo_16 hK _ _ _ _ m4 (br_t (by decide) ?_)
      rw [ew]
      exact ih (i + 1) (by omega) m4 a b
  exact loop 36 0 (by omega) m h hm
theorem L_needs {M : mMem} (hc : Cht M 1) (l x : Int) : mI3 10 66 [vr 0, vi l, vi x] M (fun _ m => FrL m M) := by
  refine mI3_i ⟨by decide, Nat.le_of_ble_eq_true rfl⟩ (fun K hK => q_L_need_0 hK l x M ⟨_, _, R_isLaw 8 M l, fun _ => rI_i (FrL_refl M), fun q => ?_⟩)
  have hl := b2_n0.mp q
  have n5 : 0 ≤ M 1 5 ∧ M 1 5 ≤ 5 := hc.2.1
  have fw : mI3 9 97 [vr 0, vi l] M (fun v m => (v = 0 ∨ v = 1 ∨ v = 2 ∨ v = -4) ∧ FrL m M) := by
    have t0 := T_copy (m := M) hc (fun _ _ _ => rfl)
    have f0 : FrL (cpyM M 9 1) M := FrL_row (FrL_refl M) (fun k a _ _ _ _ _ => cpy_ne M (by omega))
    refine mI3_i ⟨by decide, Nat.le_of_ble_eq_true rfl⟩ (fun K hK => q_L_fewestToHold_0 hK l M ⟨_, _, R_reads 6 M 1 (by omega) l (M 1 5) hc.1 hc.2.2.1 hl n5.2, fun _ => ⟨_, R_copyFrom 7 M 9 1 (by unfold cpP; omega), cI (L_one 4 hl t0 f0) (fun v m2 p => ⟨fun _ => ?_, fun _ => rI_i ⟨by omega, p.2.2⟩⟩)⟩, fun _ => rI_i ⟨by omega, FrL_refl M⟩⟩)
    exact cI (L_two 4 hl (fun c a b => hc.2.2.2.2.2 c a b) p.2.1 p.2.2) (fun v m3 p3 => ⟨fun _ => rI_i ⟨by omega, p3.2⟩, fun _ => rI_i ⟨by omega, p3.2⟩⟩)
  have k26 : (x = 0 ∨ x = 10 ∨ x = 11) → K 26 [(0, vr 0), (1, vi l), (2, vi x)] [] (S0, M) := by
    intro hx
    refine q_L_need_26 hK l x M (cI fw (fun v m p => ?_))
    refine ⟨fun _ => rI_i p.2, fun _ => ⟨fun y => ?_, fun _ => rI_i p.2⟩⟩
    rw [w32_s (z := x - 10) (by omega) (by omega)]
    exact ⟨fun _ => rI_i p.2, fun y2 => mIn_i (by omega) (by omega) (rI_i p.2)⟩
  exact ⟨fun y => k26 (by omega), fun _ => ⟨fun y => k26 (by omega), fun _ => ⟨fun y => k26 (by omega), fun _ => rI_i (FrL_refl M)⟩⟩⟩
end
section
/-! PURE PROOFS 62: need comes to its end: the other -/
theorem G_back {m M : mMem} {p : Int} {g s : Int → Int} {t c : Int} (hc : Cht M 1) (h : PgC m M p (fup g t c) (fup s c (s c - 1))) (ht : 0 ≤ t ∧ t < 36) (hz : 1 ≤ c ∧ c ≤ 3) (g0 : g t = 0) (s9 : 0 ≤ s c ∧ s c ≤ 99) : PgC (mupd (mupd m 54 (p + t) 0) 54 (p + 35 + c) (m 54 (p + 35 + c) + 1)) M p g s := by
  obtain ⟨h1, h2, h3, h4⟩ := h
  have b5 : 0 ≤ M 1 5 ∧ M 1 5 ≤ 5 := hc.2.1
  have gv := (h2 c hz.1 hz.2).1
  rw [fup_at] at gv
  unfold PgC
  rw [mupd_at, mupd_at]
  refine ⟨fun i q0 q1 => ?_, fun x q0 q1 => ?_, ?_, fun l x q0 q1 q2 q3 => ?_⟩
  · rw [fup_ne _ _ (by omega)]
    by_cases z : i = t
    · rw [z, fup_at, g0]
    · rw [fup_ne _ _ (by omega), h1 i q0 q1, fup_ne _ _ z]
  · by_cases z : x = c
    · rw [z, fup_at]
      omega
    · have q := h2 x q0 q1
      rw [fup_ne _ _ z] at q
      rw [fup_ne _ _ (by omega), fup_ne _ _ (by omega)]
      exact q
  · rw [fup_ne _ _ (by omega), fup_ne _ _ (by omega)]
    exact h3
  · rw [fup_ne _ _ (by omega), fup_ne _ _ (by omega)]
    exact h4 l x q0 q1 q2 q3
theorem M_held (d : Nat) {M m : mMem} {l n : Int} (hg : Pg M 1 0) (hc : Cht M 1) (hl : 0 ≤ l ∧ l < M 1 5) (m54 : ∀ i : Int, 0 ≤ i → i < 85 → m 54 i = M 54 i) : mI3 (d + 4) 161 [vr 53, vi l, vi n] m (fun _ m' => FrM m' m) := by
  refine mI3_i ⟨by decide, Nat.le_of_ble_eq_true rfl⟩ (fun K hK => q_M_isHeldBy_0 hK l n m ?_)
  have inner : ∀ (x : Int) (g s : Int → Int), (∀ c : Int, 1 ≤ c → c ≤ 3 → 0 ≤ s c ∧ s c ≤ 99) → (∀ m', FrM m' m → K 2 [(0, vr 53), (1, vi l), (2, vi n), (3, vi (w32 (x + 1)))] [] (S0, m')) → ∀ (j i : Nat), i + j = 600 → ∀ m', PgC m' M 425 g s → FrM m' m → K 55 [(0, vr 53), (1, vi l), (2, vi n), (3, vi x), (4, vi (i : Int))] [] (S0, m') := by
    intro x g s s9 nx j
    induction j with
    | zero =>
      intro i hi m' a b
      rw [show i = 600 by omega]
      exact q_M_isHeldBy_55 hK _ _ _ _ m' (br_t (by decide) (nx m' b))
    | succ j ih =>
      intro i hi m' a b
      have h4 := ih (i + 1) (by omega)
      have hz : ∃ z : Int, z = (i : Int) := ⟨_, rfl⟩
      obtain ⟨z, hz⟩ := hz
      have ez : ((i + 1 : Nat) : Int) = z + 1 := by omega
      rw [ez] at h4
      rw [← hz]
      have zb : 0 ≤ z ∧ z < 600 := by omega
      clear hz ez hi ih
      have ew : w32 (z + 1) = z + 1 := w32_s (by omega) (by omega)
      have by1 := G_by d a (by omega) z zb
      refine q_M_isHeldBy_55 hK _ _ _ _ m' (br_f (by omega) ⟨fun _ => nx m' b, fun _ => ⟨_, _, by1, ?_⟩⟩)
      rw [ew]
      refine ⟨fun q => ?_, fun q => ?_⟩
      · rw [if_neg (b2_0.mp q)]
        exact h4 m' a b
      · have q := b2_n0.mp q
        rw [if_pos q]
        have j1 : w32 (w32 (6 * jdiv z 100) + jrem (jdiv z 10) 10) = 6 * (z / 100) + z / 10 % 10 := by
          rw [jdiv_nn zb.1 (by omega) (by omega), jdiv_nn zb.1 (by omega) (by omega), jrem_nn (by omega), w32_s (z := 6 * (z / 100)) (by omega) (by omega), w32_s (by omega) (by omega)]
        have k130 := fun t s0 mm => q_M_isHeldBy_130 hK l n x z t s0 mm
        have j3 : w32 (w32 (461 + jrem z 10) - 1) = 425 + 35 + z % 10 := by
          rw [jrem_nn zb.1, w32_s (z := 461 + z % 10) (by omega) (by omega), w32_s (by omega) (by omega)]
          omega
        rw [j3, ew] at k130
        rw [j1]
        have tb : 0 ≤ 6 * (z / 100) + z / 10 % 10 ∧ 6 * (z / 100) + z / 10 % 10 < 36 := by
          have := q.1
          omega
        have cb : 1 ≤ z % 10 ∧ z % 10 ≤ 3 := q.1.2
        generalize 6 * (z / 100) + z / 10 % 10 = t at q tb
        generalize z % 10 = c at q cb k130
        have st := G_st a hc tb cb q.2.2
        have st2 : PgC (mupd (stM m' 425 t c) 53 19 z) M 425 (fup g t c) (fup s c (s c - 1)) := G_eq st hc (fun y _ _ => by rw [mupd_ne _ _ _ (by decide)])
        have f2 : FrM (mupd (stM m' 425 t c) 53 19 z) m := FrM_53 (FrM_st b (by decide) tb.1 (by omega)) (by decide) (by decide) (by decide) (by decide)
        generalize mupd (stM m' 425 t c) 53 19 z = m2 at st2 f2
        have sv := (st2.2.1 c cb.1 cb.2)
        rw [fup_at] at sv
        have w5 : w32 (425 + t) = 425 + t := w32_s (by omega) (by omega)
        have old : mupd m2 54 (425 + t) 0 54 (425 + 35 + c) = m2 54 (425 + 35 + c) := by rw [mupd_at, fup_ne _ _ (by omega)]
        have wv : w32 (m2 54 (425 + 35 + c) + 1) = m2 54 (425 + 35 + c) + 1 := w32_s (by omega) (by omega)
        have bk := G_back hc st2 tb cb q.2.1 (s9 c cb.1 cb.2)
        have f3 : FrM (mupd (mupd m2 54 (425 + t) 0) 54 (425 + 35 + c) (m2 54 (425 + 35 + c) + 1)) m := FrM_set (FrM_set f2 (by omega)) (by omega)
        have kk : ∀ s0 : Int, K 130 [(0, vr 53), (1, vi l), (2, vi n), (3, vi x), (4, vi z), (7, vi t)] [vi s0] (S0, m2) := by
          intro s0
          refine k130 t s0 m2 ?_
          rw [w5, old, wv]
          exact mIn_i (by omega) (by omega) (mIn_i (by omega) (by omega) (mIn_i (by omega) (by omega) ⟨fun _ => h4 _ bk f3, fun _ => rI_i f3⟩))
        exact ⟨_, _, G_reads (d + 1) st2 (by omega) hc hl, fun _ => kk 0, fun _ => kk 1⟩
  have loop : ∀ (j i : Nat), i + j = 600 → ∀ m', FrM m' m → K 2 [(0, vr 53), (1, vi l), (2, vi n), (3, vi (i : Int))] [] (S0, m') := by
    intro j
    induction j with
    | zero =>
      intro i hi m' b
      rw [show i = 600 by omega]
      exact q_M_isHeldBy_2 hK _ _ _ m' (br_t (by decide) (rI_i b))
    | succ j ih =>
      intro i hi m' b
      have h4 := ih (i + 1) (by omega)
      have ew : w32 ((i : Int) + 1) = ((i + 1 : Nat) : Int) := by rw [w32_s (by omega) (by omega)]; omega
      have zb : 0 ≤ (i : Int) ∧ (i : Int) < 600 := by omega
      rw [← ew] at h4
      generalize (i : Int) = z at zb h4 ⊢
      clear ih hi ew
      have g := G_copy (m := m') (p := 425) hg hc (fun a q0 q1 => by rw [b.2.2.2.2.2 a q0 (by omega), m54 a q0 q1])
      have fr := FrM_cpy (s := 0) b (show (255 : Int) ≤ 425 by decide)
      refine q_M_isHeldBy_2 hK _ _ _ m' (br_f (by omega) ⟨_, R_copies (d + 2) m' 0 425 (by omega) (by omega) (by omega), ?_⟩)
      generalize mcpy m' 54 0 54 425 85 = m0 at g fr
      have by1 := G_by d g (by omega) z zb
      refine ⟨_, _, by1, fun q => ?_, fun q => ?_⟩
      · rw [if_neg (b2_0.mp q)]
        exact h4 m0 fr
      · have q := b2_n0.mp q
        rw [if_pos q]
        have tb : 0 ≤ 6 * (z / 100) + z / 10 % 10 ∧ 6 * (z / 100) + z / 10 % 10 < 36 := by
          have := q.1
          omega
        have cb : 1 ≤ z % 10 ∧ z % 10 ≤ 3 := q.1.2
        generalize 6 * (z / 100) + z / 10 % 10 = t at q tb
        generalize z % 10 = c at q cb
        have st := G_st g hc tb cb q.2.2
        have st2 : PgC (mupd (stM m0 425 t c) 53 18 z) M 425 (fup (M 2) t c) (fup (M 3) c (M 3 c - 1)) := G_eq st hc (fun y _ _ => by rw [mupd_ne _ _ _ (by decide)])
        have f2 : FrM (mupd (stM m0 425 t c) 53 18 z) m := FrM_53 (FrM_st fr (by decide) tb.1 (by omega)) (by decide) (by decide) (by decide) (by decide)
        generalize mupd (stM m0 425 t c) 53 18 z = m2 at st2 f2
        have k55 : K 55 [(0, vr 53), (1, vi l), (2, vi n), (3, vi z), (4, vi 0)] [] (S0, m2) := by
          refine inner z _ _ (fun x a b => ?_) h4 600 0 (by omega) m2 st2 f2
          exact (st2.2.1 x a b).2
        exact ⟨fun _ => k55, fun _ => ⟨_, _, G_reads (d + 1) st2 (by omega) hc hl, fun _ => k55, fun _ => rI_i f2⟩⟩
  exact loop 600 0 (by omega) m (FrM_refl m)
theorem P_need {M : mMem} (h : Inv M) (l x : Int) : PairU 66 162 [vi l, vi x] M := by
  have hc := h.1
  have n5 : 0 ≤ M 1 5 ∧ M 1 5 ≤ 5 := hc.2.1
  have p3 : M 54 39 = M 1 5 := (Pg0_of h.2.1).2.2.1
  obtain ⟨v, m, f, r⟩ := L_needs hc l x
  have m54 := (FrL_lo f).2
  have m39 : m 54 39 = M 1 5 := by rw [m54, p3]
  have b : mI3 10 162 [vr 53, vi l, vi x] m (fun _ m' => FrM m' m) := by
    refine mI3_i ⟨by decide, Nat.le_of_ble_eq_true rfl⟩ (fun K hK => q_M_need_0 hK l x m ⟨_, _, R_mIsLaw 7 m l (by rw [m39]; exact n5), fun _ => rI_i (FrM_refl m), fun q => ?_⟩)
    have hl := b2_n0.mp q
    rw [m39] at hl
    have k70 : ∀ s0 m', FrM m' m → K 70 [(0, vr 53), (2, vi x)] [vi s0] (S0, m') := fun s0 m' b => q_M_need_70 hK x s0 m' ⟨fun _ => rI_i b, fun _ => ⟨fun _ => ⟨fun _ => ⟨fun _ => rI_i b, fun _ => rI_i b⟩, fun _ => rI_i b⟩, fun _ => rI_i b⟩⟩
    have k28 : K 28 [(0, vr 53), (1, vi l), (2, vi x)] [] (S0, m) := by
      refine q_M_need_28 hK l x m ⟨_, _, G_reads 7 (G_0 h.2.1 hc (fun a q0 q1 => by rw [m54])) (by omega) hc hl, fun _ => ?_, fun _ => k70 _ m (FrM_refl m)⟩
      refine cI (M_held 5 h.2.1 hc hl (fun a q0 q1 => by rw [m54])) (fun v2 m2 p2 => ⟨fun _ => ?_, fun _ => k70 _ m2 p2⟩)
      refine cI (M_held 5 h.2.1 hc hl (fun a q0 q1 => by rw [p2.2.2.2.2.2 a q0 (by omega), m54])) (fun v3 m3 p3 => ⟨fun _ => k70 _ m3 (FrM_trans p3 p2), fun _ => k70 _ m3 (FrM_trans p3 p2)⟩)
    exact ⟨fun _ => k28, fun _ => ⟨_, _, R_in 8 _ _ _ _, fun _ => k28, fun _ => rI_i (FrM_refl m)⟩⟩
  obtain ⟨v2, m2, f2, r2⟩ := b
  exact ⟨v, v2, m, m2, r, r2, Inv_fr h (Fr_trans (FrM_fr f2) (FrL_fr f))⟩
end
section
/-! PURE PROOFS 63: read: what both do -/
/-- the fault of taking three from there -/
def faV (M : mMem) (c : Nat) (a z : Int) : Int := if M c 2 < 0 then 1 else if M c 1 = a then (if 0 ≤ z ∧ z ≤ M c 2 - 3 then 0 else 2) else 3
theorem R_faultAsOf (d : Nat) (M : mMem) (c : Nat) (hc : c = 45 ∨ c = 47 ∨ c = 49 ∨ c = 51) (a z : Int) (hl : -1 ≤ M c 2 ∧ M c 2 ≤ 40) : mR3 (d + 2) 28 [vr c, vi a, vi z, vi 3] (S0, M) (some (vi (faV M c a z)), (S0, M)) := by
  have g := R_faultAt d M c hc z 3 hl (by omega)
  refine ⟨⟨by decide, Nat.le_of_ble_eq_true rfl⟩, fun K hK => q_S_faultAsOf_0 hK c a z 3 M hc ⟨fun q => ⟨_, _, g, mret_i ?_ rfl⟩, fun q => ⟨fun q2 => ⟨_, _, g, mret_i ?_ rfl⟩, fun q2 => mret_i ?_ rfl⟩⟩⟩
  · unfold faV
    rw [if_pos q, if_pos q]
  · unfold faV
    rw [if_neg q, if_neg q, if_pos q2]
  · unfold faV
    rw [if_neg q, if_neg q2]
def rdG (M : mMem) (R : Int → Int) (f : Int) : Nat → (Int → Int) × (Int → Int)
  | 0 => (M 2, M 3)
  | i + 1 => (fup (rdG M R f i).1 (6 * R (f + 3 * (i : Nat)) + R (f + 3 * (i : Nat) + 1)) (R (f + 3 * (i : Nat) + 2)), fup (rdG M R f i).2 (R (f + 3 * (i : Nat) + 2)) ((rdG M R f i).2 (R (f + 3 * (i : Nat) + 2)) - 1))
theorem rdG_s (M : mMem) (R : Int → Int) (f : Int) (i : Nat) : rdG M R f (i + 1) = (fup (rdG M R f i).1 (6 * R (f + 3 * (i : Nat)) + R (f + 3 * (i : Nat) + 1)) (R (f + 3 * (i : Nat) + 2)), fup (rdG M R f i).2 (R (f + 3 * (i : Nat) + 2)) ((rdG M R f i).2 (R (f + 3 * (i : Nat) + 2)) - 1)) := rfl
/-- can the stitch that is told be worked -/
def okI (g : (Int → Int) × (Int → Int)) (x y c : Int) : Int := b2 ((0 ≤ x ∧ x < 6 ∧ 0 ≤ y ∧ y < 6) ∧ (1 ≤ c ∧ c ≤ 3) ∧ g.1 (6 * x + y) = 0 ∧ 0 < g.2 c)
def rdO (M : mMem) (R : Int → Int) (c : Nat) (a f : Int) : Nat → Nat → Int × Int × Nat × Int
  | 0, i => ((i : Int), 0, i, 0)
  | j + 1, i => if faV M c a (f + 3 * (i : Nat)) ≠ 0 then ((i : Int), faV M c a (f + 3 * (i : Nat)), i, 0) else if okI (rdG M R f i) (R (f + 3 * (i : Nat))) (R (f + 3 * (i : Nat) + 1)) (R (f + 3 * (i : Nat) + 2)) = 0 then (-20 - (i : Int), 0, 0, 1) else rdO M R c a f j (i + 1)
theorem rdO_s (M : mMem) (R : Int → Int) (c : Nat) (a f : Int) (j i : Nat) : rdO M R c a f (j + 1) i = if faV M c a (f + 3 * (i : Nat)) ≠ 0 then ((i : Int), faV M c a (f + 3 * (i : Nat)), i, 0) else if okI (rdG M R f i) (R (f + 3 * (i : Nat))) (R (f + 3 * (i : Nat) + 1)) (R (f + 3 * (i : Nat) + 2)) = 0 then (-20 - (i : Int), 0, 0, 1) else rdO M R c a f j (i + 1) := rfl
theorem L_wf (d : Nat) {m M : mMem} {g : (Int → Int) × (Int → Int)} {c : Nat} (hc : c = 45 ∨ c = 47 ∨ c = 49 ∨ c = 51) {z : Int} (hz : 0 ≤ z ∧ z ≤ 37) (h : TrC m M g.1 g.2) : mR3 (d + 4) 102 [vr 0, vr c, vi z] (S0, m) (some (vi (okI g (m (c + 1) z) (m (c + 1) (z + 1)) (m (c + 1) (z + 2)))), (S0, if okI g (m (c + 1) z) (m (c + 1) (z + 1)) (m (c + 1) (z + 2)) = 0 then m else takeM m 9 (6 * m (c + 1) z + m (c + 1) (z + 1)) (m (c + 1) (z + 2)))) := by
  refine ⟨⟨by decide, Nat.le_of_ble_eq_true rfl⟩, fun K hK => q_L_workFrom_0 hK c z m hc ?_⟩
  rw [w32_s (z := z + 1) (by omega) (by omega), w32_s (z := z + 2) (by omega) (by omega)]
  refine mIn_i (by omega) (by omega) (mIn_i (by omega) (by omega) (mIn_i (by omega) (by omega) ?_))
  generalize m (c + 1) z = x
  generalize m (c + 1) (z + 1) = y
  generalize m (c + 1) (z + 2) = w
  unfold okI
  refine ⟨_, _, R_isCell (d + 2) m x y, fun q => ?_, fun q => ⟨_, _, R_isColour (d + 2) m w, fun q2 => ?_, fun q2 => ?_⟩⟩
  · have q := b2_0.mp q
    rw [b2_f (fun u => q u.1), if_pos rfl]
    exact mret_i rfl rfl
  · have q2 := b2_0.mp q2
    rw [b2_f (fun u => q2 u.2.1), if_pos rfl]
    exact mret_i rfl rfl
  · have q := b2_n0.mp q
    have q2 := b2_n0.mp q2
    refine ⟨_, _, R_place (d + 2) m (x := x) (y := y) (by omega) (by omega), _, _, T_can (d + 2) h (t := 6 * x + y) (c := w) (by omega) q2, fun q3 => ?_, fun q3 => ?_⟩
    · have q3 := b2_n0.mp q3
      rw [b2_t ⟨q, q2, q3⟩, if_neg (by decide)]
      exact ⟨_, _, R_place (d + 2) m (x := x) (y := y) (by omega) (by omega), _, R_take d m 9 (by omega) (6 * x + y) w (by omega) q2 h.1.1.1, mret_i rfl rfl⟩
    · have q3 := b2_0.mp (Decidable.not_not.mp q3)
      rw [b2_f (fun u => q3 u.2.2), if_pos rfl]
      exact mret_i rfl rfl
theorem G_works (d : Nat) {m M : mMem} {g : (Int → Int) × (Int → Int)} {x y c : Int} {k : Nat} (hc : Cht M 1) (hk : M 1 5 = k) (h : PgC m M 0 g.1 g.2) : mI3 (d + 4) 149 [vr 53, vi x, vi y, vi c] m (fun v m' => (okI g x y c = 0 ∧ v < 0 ∧ m' = m) ∨ (okI g x y c ≠ 0 ∧ 0 ≤ v ∧ m' = stM m 0 (6 * x + y) c)) := by
  have n5 : 0 ≤ M 1 5 ∧ M 1 5 ≤ 5 := hc.2.1
  have hL := hc.2.2.1
  rw [hk] at hL
  by_cases q : (0 ≤ x ∧ x < 6 ∧ 0 ≤ y ∧ y < 6) ∧ 1 ≤ c ∧ c ≤ 3
  · have g1 := h.1 (6 * x + y) (by omega) (by omega)
    have g2 := h.2.1 c q.2.1 q.2.2
    by_cases q2 : g.1 (6 * x + y) = 0 ∧ 0 < g.2 c
    · have st := G_st h hc (t := 6 * x + y) (v := c) (by omega) q.2 q2.2
      have sl := G_law st hc
      rw [hk] at sl
      have r := R_works_t d m k q.1 q.2 (by omega) (by omega) (by rw [st.2.2.1, hk]) (by omega) sl
      refine ⟨_, _, Or.inr ⟨?_, ?_, rfl⟩, r⟩
      · unfold okI
        rw [b2_t ⟨q.1, q.2, q2⟩]
        decide
      · exact (woS_rng sl).1
    · refine ⟨_, _, Or.inl ⟨?_, by decide, rfl⟩, R_works_s d m q.1 q.2 (by omega) (by omega)⟩
      unfold okI
      rw [b2_f (fun u => q2 u.2.2)]
  · refine ⟨_, _, Or.inl ⟨?_, by decide, rfl⟩, R_works_b d m q⟩
    unfold okI
    rw [b2_f (fun u => q ⟨u.1, u.2.1⟩)]
theorem okI_01 (g : (Int → Int) × (Int → Int)) (x y c : Int) : okI g x y c = 0 ∨ okI g x y c = 1 := b2_01 _
theorem okI_1 {g : (Int → Int) × (Int → Int)} {x y c : Int} (h : okI g x y c ≠ 0) : (0 ≤ x ∧ x < 6 ∧ 0 ≤ y ∧ y < 6) ∧ (1 ≤ c ∧ c ≤ 3) ∧ g.1 (6 * x + y) = 0 ∧ 0 < g.2 c := b2_n0.mp h
end
section
/-! PURE PROOFS 64: read: the class -/
theorem faV_0 {M : mMem} {c : Nat} {a z : Int} (hl : M c 2 ≤ 40) (h : ¬ faV M c a z ≠ 0) : 0 ≤ M c 2 ∧ M c 1 = a ∧ 0 ≤ z ∧ z ≤ M c 2 - 3 := by
  unfold faV at h
  by_cases q : M c 2 < 0
  · rw [if_pos q] at h
    exact absurd h (by decide)
  · rw [if_neg q] at h
    by_cases q2 : M c 1 = a
    · rw [if_pos q2] at h
      by_cases q3 : 0 ≤ z ∧ z ≤ M c 2 - 3
      · exact ⟨by omega, q2, q3⟩
      · rw [if_neg q3] at h
        exact absurd h (by decide)
    · rw [if_neg q2] at h
      exact absurd h (by decide)
def ReL (M m : mMem) (R : Int → Int) (f : Int) (o : Int × Int × Nat × Int) : Prop := (o.2.2.2 = 1 ∧ FrL m M) ∨ (o.2.2.2 = 0 ∧ ∃ m2, TrC m2 M (rdG M R f o.2.2.1).1 (rdG M R f o.2.2.1).2 ∧ FrL m2 M ∧ m = mupd (cpyM m2 1 9) 0 16 o.2.1)
theorem sh_len {M : mMem} {kk : Nat} (h : ShI M kk) : -1 ≤ M (45 + 2 * kk) 2 ∧ M (45 + 2 * kk) 2 ≤ 40 := by
  rcases h with ⟨a, _⟩ | ⟨a, _⟩
  · omega
  · omega
theorem read_L {M : mMem} (hc : Cht M 1) {k a f n : Int} {kk nn : Nat} (sh : ShI M kk) (hk : k = kk) (hkk : kk < 4) (ha : 0 ≤ a ∧ a ≤ 2) (hn : n = nn) (hnn : nn ≤ 13) (hf : inR f) : mI3 10 84 [vr 0, vi k, vi a, vi f, vi n] M (fun v m => v = (rdO M (M (46 + 2 * kk)) (45 + 2 * kk) a f nn 0).1 ∧ ReL M m (M (46 + 2 * kk)) f (rdO M (M (46 + 2 * kk)) (45 + 2 * kk) a f nn 0)) := by
  have tn : k.toNat = kk := by omega
  have hcc : 45 + 2 * kk = 45 ∨ 45 + 2 * kk = 47 ∨ 45 + 2 * kk = 49 ∨ 45 + 2 * kk = 51 := by omega
  have sl := sh_len sh
  have f1 : -2147483648 ≤ f := hf.1
  have f2 : f < 2147483648 := hf.2
  generalize ho : rdO M (M (46 + 2 * kk)) (45 + 2 * kk) a f nn 0 = o
  refine mI3_i ⟨by decide, Nat.le_of_ble_eq_true rfl⟩ (fun K hK => q_L_read_0 hK k a f n M ⟨_, _, R_isSheet 8 M k, br_f (fun q => b2_0.mp q (by omega)) ⟨_, _, R_isLane 8 M a, br_f (fun q => b2_0.mp q ha) (br_f (by omega) (br_t (by omega) (mIn_i (by omega) (by omega) ⟨45 + 2 * kk, ?_, ?_⟩)))⟩⟩)
  · rw [tn]
    exact sh_at kk (by omega)
  · have loop : ∀ (j i : Nat), i + j = nn → (i = 0 ∨ (0 ≤ f + 3 * ((i : Int) - 1) ∧ f + 3 * ((i : Int) - 1) ≤ 37)) → rdO M (M (46 + 2 * kk)) (45 + 2 * kk) a f j i = o → ∀ m', TrC m' M (rdG M (M (46 + 2 * kk)) f i).1 (rdG M (M (46 + 2 * kk)) f i).2 → FrL m' M → K 56 [(0, vr 0), (2, vi a), (3, vi f), (4, vi n), (5, vr (45 + 2 * kk)), (6, vi (i : Int)), (7, vi 0), (8, vi (i : Int))] [] (S0, m') := by
      intro j
      induction j with
      | zero =>
        intro i hi hr he m' h1 h2
        have e : o = ((i : Int), 0, i, 0) := he.symm
        refine q_L_read_56 hK _ _ _ _ _ _ _ m' hcc (br_t (by omega) (q_L_read_118 hK _ _ m' ⟨_, R_copyFrom 8 m' 1 9 (by unfold cpP; omega), rI_i ⟨?_, ?_⟩⟩))
        · rw [e]
        · rw [e]
          exact Or.inr ⟨rfl, m', h1, h2, rfl⟩
      | succ j ih =>
        intro i hi hr he m' h1 h2
        have h4 := ih (i + 1) (by omega)
        rw [rdO_s] at he
        rw [rdG_s] at h4
        generalize hg : rdG M (M (46 + 2 * kk)) f i = g at h1 he h4
        have hz : ∃ z : Int, z = (i : Int) := ⟨_, rfl⟩
        obtain ⟨z, hz⟩ := hz
        have ez : ((i + 1 : Nat) : Int) = z + 1 := by omega
        rw [ez, ← hz] at h4
        rw [← hz] at hr he
        rw [← hz]
        have zb : 0 ≤ z ∧ z < n ∧ z ≤ 13 := by omega
        have hr : z = 0 ∨ (0 ≤ f + 3 * (z - 1) ∧ f + 3 * (z - 1) ≤ 37) := by
          rcases hr with hr | hr
          · exact Or.inl (by omega)
          · exact Or.inr hr
        have zi : (i + 1 = 0) = False := by simp
        clear hz ez hi ih
        have w1 : w32 (z + 1) = z + 1 := w32_s (by omega) (by omega)
        have w2 : w32 (f + w32 (3 * z)) = f + 3 * z := by rw [w32_s (z := 3 * z) (by omega) (by omega), w32_s (by omega) (by omega)]
        have m45 : m' (45 + 2 * kk) = M (45 + 2 * kk) := h2.1 _ (by omega)
        have m46 : m' (45 + 2 * kk + 1) = M (46 + 2 * kk) := by rw [show 45 + 2 * kk + 1 = 46 + 2 * kk by omega]; exact h2.1 _ (by omega)
        have lt : ¬ n ≤ z := by omega
        rw [show z + 1 - 1 = z by omega] at h4
        rw [← w1] at h4
        have fa := R_faultAsOf 7 m' (45 + 2 * kk) hcc a (f + 3 * z) (by rw [m45]; exact sl)
        have fe : faV m' (45 + 2 * kk) a (f + 3 * z) = faV M (45 + 2 * kk) a (f + 3 * z) := by
          unfold faV
          rw [m45]
        rw [fe] at fa
        refine q_L_read_56 hK _ _ _ _ _ _ _ m' hcc (br_f lt (br_f (by decide) ?_))
        rw [w2]
        refine ⟨_, _, fa, fun q => ?_, fun q => ?_⟩
        · rw [if_pos q] at he
          have fin : K 118 [(0, vr 0), (6, vi z), (7, vi (faV M (45 + 2 * kk) a (f + 3 * z)))] [] (S0, m') := by
            refine q_L_read_118 hK _ _ m' ⟨_, R_copyFrom 8 m' 1 9 (by unfold cpP; omega), rI_i ⟨?_, ?_⟩⟩
            · rw [← he]
            · rw [← he]
              refine Or.inr ⟨rfl, m', ?_, h2, rfl⟩
              show TrC m' M (rdG M (M (46 + 2 * kk)) f i).1 (rdG M (M (46 + 2 * kk)) f i).2
              rw [hg]
              exact h1
          exact q_L_read_56 hK _ _ _ _ _ _ _ m' hcc ⟨fun _ => fin, fun _ => br_t q fin⟩
        · have f0 := faV_0 sl.2 q
          rw [if_neg q] at he
          have wf := L_wf 5 (c := 45 + 2 * kk) hcc (z := f + 3 * z) (by omega) h1
          rw [m46] at wf
          have qz : faV M (45 + 2 * kk) a (f + 3 * z) = 0 := Decidable.not_not.mp q
          rw [qz]
          refine ⟨_, _, wf, fun q2 => ?_, fun q2 => ?_⟩
          · rw [if_neg q2] at he
            rw [if_neg q2]
            have ok := okI_1 q2
            have nx := h4 (Or.inr ⟨f0.2.2.1, by omega⟩) he (takeM m' 9 (6 * M (46 + 2 * kk) (f + 3 * z) + M (46 + 2 * kk) (f + 3 * z + 1)) (M (46 + 2 * kk) (f + 3 * z + 2))) (T_take h1 (by omega) ok.2.1 ok.2.2.2) (FrL_row h2 (fun k z _ _ _ _ _ => takeM_ne m' 9 _ _ (by omega) (by omega) (by omega) (by omega)))
            exact nx
          · have q2 := Decidable.not_not.mp q2
            rw [if_pos q2] at he
            rw [if_pos q2, w32_s (z := -20 - z) (by omega) (by omega)]
            refine rI_i ⟨?_, ?_⟩
            · rw [← he]
            · rw [← he]
              exact Or.inl ⟨rfl, h2⟩
    have t0 := T_copy (m := M) hc (fun _ _ _ => rfl)
    exact q_L_read_34 hK a f n _ M hcc ⟨_, R_copyFrom 8 M 9 1 (by unfold cpP; omega), loop nn 0 (by omega) (Or.inl rfl) ho _ t0 (FrL_row (FrL_refl M) (fun k z _ _ _ _ _ => cpy_ne M (by omega)))⟩
end
section
/-! PURE PROOFS 65: read: the other -/
def ReM (M m1 m : mMem) (R : Int → Int) (f : Int) (o : Int × Int × Nat × Int) : Prop := (o.2.2.2 = 1 ∧ FrM m m1) ∨ (o.2.2.2 = 0 ∧ PgC m M 0 (rdG M R f o.2.2.1).1 (rdG M R f o.2.2.1).2 ∧ m 53 30 = o.2.1 ∧ (∀ k : Nat, k ≠ 53 → k ≠ 54 → m k = m1 k) ∧ (∀ i : Int, i ≠ 30 → m 53 i = m1 53 i) ∧ ∀ i : Int, 60 ≤ i → i < 255 → m 54 i = m1 54 i)
theorem read_M {M m1 : mMem} (hg : Pg M 1 0) (hc : Cht M 1) {k a f n : Int} {kk nn : Nat} (sh : ShI M kk) (hk : k = kk) (hkk : kk < 4) (ha : 0 ≤ a ∧ a ≤ 2) (hn : n = nn) (hnn : nn ≤ 13) (hf : inR f) (m54 : m1 54 = M 54) (m64 : m1 64 = M 64) (m65 : m1 65 = M 65) (m66 : m1 66 = M 66) : mI3 10 187 [vr 53, vi k, vi a, vi f, vi n] m1 (fun v m => v = (rdO M (M (46 + 2 * kk)) (45 + 2 * kk) a f nn 0).1 ∧ ReM M m1 m (M (46 + 2 * kk)) f (rdO M (M (46 + 2 * kk)) (45 + 2 * kk) a f nn 0)) := by
  have sl := sh_len sh
  have f1 : -2147483648 ≤ f := hf.1
  have f2 : f < 2147483648 := hf.2
  have n5 : 0 ≤ M 1 5 ∧ M 1 5 ≤ 5 := hc.2.1
  obtain ⟨k5, hk5⟩ : ∃ k5 : Nat, M 1 5 = k5 := ⟨(M 1 5).toNat, by omega⟩
  have kb : 0 ≤ k ∧ k < 4 := by omega
  have nb : 0 ≤ n ∧ n ≤ 13 := by omega
  unfold ShI at sh
  rw [← hk] at sh
  generalize ho : rdO M (M (46 + 2 * kk)) (45 + 2 * kk) a f nn 0 = o
  refine mI3_i ⟨by decide, Nat.le_of_ble_eq_true rfl⟩ (fun K hK => q_M_read_0 hK k a f n m1 ⟨_, _, R_in 8 _ _ _ _, br_f (fun q => b2_0.mp q (by omega)) ⟨_, _, R_in 8 _ _ _ _, br_f (fun q => b2_0.mp q (by omega)) ⟨_, _, R_in 8 _ _ _ _, br_t (b2_n0.mpr (by omega)) ⟨_, R_copies 8 m1 0 255 (by omega) (by omega) (by omega), ?_⟩⟩⟩⟩)
  have w3n : w32 (3 * n) = 3 * n := w32_s (by omega) (by omega)
  have loop : ∀ (j i : Nat) (z : Int), z = i → i + j = nn → (z = 0 ∨ (0 ≤ f + 3 * (z - 1) ∧ f + 3 * (z - 1) ≤ 37)) → rdO M (M (46 + 2 * kk)) (45 + 2 * kk) a f j i = o → ∀ m', PgC m' M 0 (rdG M (M (46 + 2 * kk)) f i).1 (rdG M (M (46 + 2 * kk)) f i).2 → (∀ y : Nat, y ≠ 54 → m' y = m1 y) → (∀ x : Int, 60 ≤ x → x < 255 → m' 54 x = m1 54 x) → (∀ x : Int, 0 ≤ x → x < 85 → m' 54 (255 + x) = M 54 x) → K 56 [(0, vr 53), (1, vi k), (2, vi a), (3, vi f), (4, vi n), (5, vi 0), (6, vi z), (7, vi (3 * z))] [] (S0, m') := by
    intro j
    induction j with
    | zero =>
      intro i z hz hi hr he m' h1 h2 h3 h5
      have e : o = ((i : Int), 0, i, 0) := he.symm
      rw [← hz] at e
      refine q_M_read_56 hK _ _ _ _ _ _ _ m' (br_t (by rw [w3n]; omega) (rI_i ⟨?_, ?_⟩))
      · rw [e]
      · rw [e]
        refine Or.inr ⟨rfl, G_eq h1 hc (fun y _ _ => by rw [mupd_ne _ _ _ (by decide)]), by rw [mupd_at, fup_at], fun y a b => by rw [mupd_ne _ _ _ a, h2 y b], fun x hx => by rw [mupd_at, fup_ne _ _ hx, h2 53 (by decide)], fun x a b => by rw [mupd_ne _ _ _ (by decide), h3 x a b]⟩
    | succ j ih =>
      intro i z hz hi hr he m' h1 h2 h3 h5
      have h4 := ih (i + 1) (z + 1) (by omega) (by omega)
      rw [rdO_s, ← hz] at he
      rw [rdG_s, ← hz, show z + 1 - 1 = z by omega] at h4
      generalize hg' : rdG M (M (46 + 2 * kk)) f i = g at h1 he h4
      have zb : 0 ≤ z ∧ z < n ∧ z ≤ 13 := by omega
      clear hi ih hz
      have e64 : m' 64 = M 64 := by rw [h2 64 (by decide), m64]
      have e65 : m' 65 = M 65 := by rw [h2 65 (by decide), m65]
      have e66 : m' 66 = M 66 := by rw [h2 66 (by decide), m66]
      have fin : ∀ (s0 y : Int), s0 ≠ 0 → 3 * z ≤ y → y < 3 * z + 3 → faV M (45 + 2 * kk) a (f + 3 * z) = s0 → K 126 [(0, vr 53), (1, vi k), (2, vi a), (3, vi f), (4, vi n), (6, vi z), (7, vi y)] [vi s0] (S0, m') := by
        intro s0 y hs0 y0 y1 fv
        rw [fv, if_pos hs0] at he
        have rr : rI (fun v m => v = o.1 ∧ ReM M m1 m (M (46 + 2 * kk)) f o) (some (vi z)) (S0, mupd m' 53 30 s0) := by
          refine rI_i ⟨?_, ?_⟩
          · rw [← he]
          · rw [← he]
            refine Or.inr ⟨rfl, ?_, by rw [mupd_at, fup_at], fun y a b => by rw [mupd_ne _ _ _ a, h2 y b], fun x hx => by rw [mupd_at, fup_ne _ _ hx, h2 53 (by decide)], fun x a b => by rw [mupd_ne _ _ _ (by decide), h3 x a b]⟩
            show PgC _ M 0 (rdG M (M (46 + 2 * kk)) f i).1 (rdG M (M (46 + 2 * kk)) f i).2
            rw [hg']
            exact G_eq h1 hc (fun y _ _ => by rw [mupd_ne _ _ _ (by decide)])
        exact q_M_read_126 hK _ _ _ _ _ _ s0 m' (br_t hs0 (q_M_read_56 hK _ _ _ _ _ _ _ m' ⟨fun _ => rr, fun _ => br_t hs0 rr⟩))
      have l0 : ∀ y : Int, 3 * z ≤ y → y < 3 * z + 3 → ¬ w32 (3 * n) ≤ y := fun y a b => by
        rw [w3n]
        omega
      rcases sh with ⟨s1, s2⟩ | ⟨s1, s2, s3, s4, s5⟩
      · have fv : faV M (45 + 2 * kk) a (f + 3 * z) = 1 := by
          unfold faV
          rw [if_pos (by omega)]
        refine q_M_read_56 hK _ _ _ _ _ _ _ m' (br_f (l0 _ (by omega) (by omega)) (br_f (by decide) ?_))
        rw [e64]
        exact mIn_i kb.1 (by omega) (br_f (fun q => q s2) (fin 1 _ (by decide) (by omega) (by omega) fv))
      · by_cases la : M (45 + 2 * kk) 1 = a
        · have w65 : w32 (M 65 k - 1) = M (45 + 2 * kk) 2 - 1 := by
            rw [s4]
            exact w32_s (by omega) (by omega)
          have chk : ∀ y : Int, 3 * z ≤ y → y < 3 * z + 3 → (¬ (0 ≤ f + y ∧ f + y ≤ M (45 + 2 * kk) 2 - 1) → K 126 [(0, vr 53), (1, vi k), (2, vi a), (3, vi f), (4, vi n), (6, vi z), (7, vi y)] [vi 2] (S0, m')) → ((0 ≤ f + y ∧ f + y ≤ M (45 + 2 * kk) 2 - 1) → K 126 [(0, vr 53), (1, vi k), (2, vi a), (3, vi f), (4, vi n), (6, vi z), (7, vi y)] [vi 0] (S0, m')) → K 56 [(0, vr 53), (1, vi k), (2, vi a), (3, vi f), (4, vi n), (5, vi 0), (6, vi z), (7, vi y)] [] (S0, m') := by
            intro y y0 y1 no yes
            refine q_M_read_56 hK _ _ _ _ _ _ _ m' (br_f (l0 y y0 y1) (br_f (by decide) ?_))
            have w64y : w64 (f + y) = f + y := w64_id ⟨by omega, by omega⟩
            rw [e64, e65, w65, w64y, s3]
            refine mIn_i kb.1 (by omega) (br_t (by omega) (mIn_i kb.1 (by omega) (br_t la (mIn_i kb.1 (by omega) ⟨_, _, R_in 8 _ _ _ _, fun q => ?_, fun q => ?_⟩))))
            · have q := b2_n0.mp q
              exact yes (by omega)
            · have q := b2_0.mp (Decidable.not_not.mp q)
              exact no (by omega)
          have fv2 : ¬ (0 ≤ f + 3 * z ∧ f + 3 * z ≤ M (45 + 2 * kk) 2 - 3) → faV M (45 + 2 * kk) a (f + 3 * z) = 2 := fun q => by
            unfold faV
            rw [if_neg (by omega), if_pos la, if_neg q]
          have step : ∀ y : Int, 3 * z ≤ y → y < 3 * z + 2 → K 56 [(0, vr 53), (1, vi k), (2, vi a), (3, vi f), (4, vi n), (5, vi 0), (6, vi z), (7, vi (y + 1))] [] (S0, m') → K 126 [(0, vr 53), (1, vi k), (2, vi a), (3, vi f), (4, vi n), (6, vi z), (7, vi y)] [vi 0] (S0, m') := by
            intro y y0 y1 nx
            have jr : jrem y 3 = y % 3 := jrem_nn (by omega)
            refine q_M_read_126 hK _ _ _ _ _ _ 0 m' (br_f (fun q => q rfl) ?_)
            rw [jr, w32_s (z := y + 1) (by omega) (by omega)]
            exact br_t (by omega) nx
          refine chk (3 * z) (by omega) (by omega) (fun q => fin 2 _ (by decide) (by omega) (by omega) (fv2 (by omega))) (fun q0 => step (3 * z) (by omega) (by omega) ?_)
          refine chk (3 * z + 1) (by omega) (by omega) (fun q => fin 2 _ (by decide) (by omega) (by omega) (fv2 (by omega))) (fun q1 => step (3 * z + 1) (by omega) (by omega) ?_)
          rw [show 3 * z + 1 + 1 = 3 * z + 2 by omega]
          refine chk (3 * z + 2) (by omega) (by omega) (fun q => fin 2 _ (by decide) (by omega) (by omega) (fv2 (by omega))) (fun q2 => ?_)
          have fv0 : ¬ faV M (45 + 2 * kk) a (f + 3 * z) ≠ 0 := fun w => w (by
            unfold faV
            rw [if_neg (by omega), if_pos la, if_pos (by omega)])
          rw [if_neg fv0] at he
          have jr : jrem (3 * z + 2) 3 = 2 := by
            rw [jrem_nn (by omega)]
            omega
          have i2 : w32 (w32 (w32 (w32 (40 * k) + f) + (3 * z + 2)) - 2) = 40 * k + (f + 3 * z) := by
            rw [w32_s (z := 40 * k) (by omega) (by omega), w32_s (z := 40 * k + f) (by omega) (by omega), w32_s (z := 40 * k + f + (3 * z + 2)) (by omega) (by omega), w32_s (by omega) (by omega)]
            omega
          have i1 : w32 (w32 (w32 (w32 (40 * k) + f) + (3 * z + 2)) - 1) = 40 * k + (f + 3 * z + 1) := by
            rw [w32_s (z := 40 * k) (by omega) (by omega), w32_s (z := 40 * k + f) (by omega) (by omega), w32_s (z := 40 * k + f + (3 * z + 2)) (by omega) (by omega), w32_s (by omega) (by omega)]
            omega
          have i0 : w32 (w32 (w32 (40 * k) + f) + (3 * z + 2)) = 40 * k + (f + 3 * z + 2) := by
            rw [w32_s (z := 40 * k) (by omega) (by omega), w32_s (z := 40 * k + f) (by omega) (by omega), w32_s (by omega) (by omega)]
            omega
          have r0 := s5 (f + 3 * z) (by omega) (by omega)
          have r1 := s5 (f + 3 * z + 1) (by omega) (by omega)
          have r2 := s5 (f + 3 * z + 2) (by omega) (by omega)
          refine q_M_read_126 hK _ _ _ _ _ _ 0 m' (br_f (fun q => q rfl) ?_)
          rw [jr, i2, i1, i0, e66, r0, r1, r2, w32_s (z := 3 * z + 2 + 1) (by omega) (by omega), w32_s (z := z + 1) (by omega) (by omega), w32_s (z := -20 - z) (by omega) (by omega)]
          refine br_f (fun q => q rfl) (mIn_i (by omega) (by omega) (mIn_i (by omega) (by omega) (mIn_i (by omega) (by omega) (cI (G_works 5 hc hk5 h1) (fun v m2 p => ?_)))))
          rcases p with ⟨p1, p2, p3⟩ | ⟨p1, p2, p3⟩
          · rw [if_pos p1] at he
            refine br_f (by omega) ⟨_, R_copies 8 m2 255 0 (by omega) (by omega) (by omega), rI_i ⟨?_, ?_⟩⟩
            · rw [← he]
            · rw [← he, p3]
              refine Or.inl ⟨rfl, ⟨fun y a b _ _ _ => ?_, ?_, ?_, ?_, ?_, fun x x0 x1 => ?_⟩⟩
              · rw [mcpy_ne _ _ _ _ _ b, h2 y b]
              · rw [mcpy_ne _ _ _ _ _ (by decide), h2 53 (by decide)]
              · rw [mcpy_ne _ _ _ _ _ (by decide), h2 53 (by decide)]
              · rw [mcpy_ne _ _ _ _ _ (by decide), h2 53 (by decide)]
              · rw [mcpy_ne _ _ _ _ _ (by decide), h2 53 (by decide)]
              · unfold mcpy
                by_cases w : x < 85
                · rw [if_pos ⟨rfl, by omega, by omega⟩, show 255 + (x - 0) = 255 + x by omega, h5 x x0 w, m54]
                · rw [if_neg (by omega), h3 x (by omega) x1]
          · rw [if_neg p1] at he
            have ok := okI_1 p1
            refine br_t p2 ?_
            rw [p3, show 3 * z + 2 + 1 = 3 * (z + 1) by omega]
            refine h4 (Or.inr ⟨by omega, by omega⟩) he _ (G_st h1 hc (by omega) ok.2.1 ok.2.2.2) (fun y a => by rw [stM_ne _ _ _ _ a, h2 y a]) (fun x x0 x1 => ?_) (fun x x0 x1 => ?_)
            · unfold stM
              rw [mupd_at, fup_ne _ _ (by omega), mupd_at, fup_ne _ _ (by omega), h3 x x0 x1]
            · unfold stM
              rw [mupd_at, fup_ne _ _ (by omega), mupd_at, fup_ne _ _ (by omega), h5 x x0 x1]
        · have fv : faV M (45 + 2 * kk) a (f + 3 * z) = 3 := by
            unfold faV
            rw [if_neg (by omega), if_neg la]
          refine q_M_read_56 hK _ _ _ _ _ _ _ m' (br_f (l0 _ (by omega) (by omega)) (br_f (by decide) ?_))
          rw [e64, s3]
          exact mIn_i kb.1 (by omega) (br_t (by omega) (mIn_i kb.1 (by omega) (br_f la (fin 3 _ (by decide) (by omega) (by omega) fv))))
  refine loop nn 0 0 rfl (by omega) (Or.inl rfl) ho _ (G_0 hg hc (fun x x0 x1 => ?_)) (fun y a => mcpy_ne _ _ _ _ _ a) (fun x x0 x1 => ?_) (fun x x0 x1 => ?_)
  · unfold mcpy
    rw [if_neg (by omega), m54]
  · unfold mcpy
    rw [if_neg (by omega)]
  · unfold mcpy
    rw [if_pos ⟨rfl, by omega, by omega⟩, m54, show 0 + (255 + x - 255) = x by omega]
end
section
/-! PURE PROOFS 66: read -/
theorem Inv_c2 {M N : mMem} (h : Inv N) (c : Cht M 1) (p : Pg M 1 0) (r : ∀ k : Nat, ((17 ≤ k ∧ k ≤ 36) ∨ k = 40 ∨ k = 41 ∨ 45 ≤ k) → k ≠ 53 → k ≠ 54 → M k = N k) (f : ∀ i : Int, 85 ≤ i → i < 255 → M 54 i = N 54 i) (e13 : M 0 13 = N 0 13) (e5 : M 53 5 = N 53 5) (e6 : M 53 6 = N 53 6) (e22 : M 53 22 = N 53 22) (t : M 0 16 = M 53 30) : Inv M := by
  obtain ⟨_, _, i3, i4, i5, i6, i7, i8, i9, i10⟩ := h
  refine ⟨c, p, ?_, ?_, ?_, ?_, ?_, t, ?_, ?_⟩
  · exact ImI_fr i3 (r 17 (by omega) (by omega) (by omega)) (r 63 (by omega) (by omega) (by omega)) (fun k h0 h1 => r k (by omega) (by omega) (by omega)) (fun i h0 h1 => f i (by omega) (by omega))
  · exact ImI_fr i4 (r 26 (by omega) (by omega) (by omega)) (r 63 (by omega) (by omega) (by omega)) (fun k h0 h1 => r k (by omega) (by omega) (by omega)) (fun i h0 h1 => f i (by omega) (by omega))
  · exact TaI_fr i5 (by rw [r 35 (by omega) (by omega) (by omega)]) (by rw [r 35 (by omega) (by omega) (by omega)]) e5 e6 (r 56 (by omega) (by omega) (by omega)) (r 36 (by omega) (by omega) (by omega))
  · exact SeI_fr i6 e13 e22 (r 60 (by omega) (by omega) (by omega)) (r 40 (by omega) (by omega) (by omega)) (r 41 (by omega) (by omega) (by omega))
  · exact ShI_fr i7 (fun k hk => r k (by omega) (by omega) (by omega))
  · rw [r 57 (by omega) (by omega) (by omega)]
    exact i9
  · rw [r 58 (by omega) (by omega) (by omega)]
    exact i10
theorem P_read {M : mMem} (h : Inv M) (k a f n : Int) (hf : inR f) : PairI 84 187 [vi k, vi a, vi f, vi n] M := by
  have hc := h.1
  have hp := Pg0_of h.2.1
  by_cases c : (0 ≤ k ∧ k < 4) ∧ (0 ≤ a ∧ a ≤ 2) ∧ 0 ≤ n ∧ n ≤ 13
  · obtain ⟨kk, hk⟩ : ∃ kk : Nat, k = kk := ⟨k.toNat, by omega⟩
    obtain ⟨nn, hn⟩ : ∃ nn : Nat, n = nn := ⟨n.toNat, by omega⟩
    have sh := h.2.2.2.2.2.2.1 kk (by omega)
    obtain ⟨v, m1, ⟨e, re⟩, r1⟩ := read_L hc sh hk (by omega) c.2.1 hn (by omega) hf
    have fr : ∀ y : Nat, 45 ≤ y → m1 y = M y := by
      intro y hy
      rcases re with ⟨_, q⟩ | ⟨_, m2, _, q, w⟩
      · exact q.1 y (by omega)
      · rw [w, mupd_ne _ _ _ (by omega), cpy_ne m2 (by omega), q.1 y (by omega)]
    obtain ⟨v', m2, ⟨e', re'⟩, r2⟩ := read_M (m1 := m1) h.2.1 hc sh hk (by omega) c.2.1 hn (by omega) hf (fr 54 (by decide)) (fr 64 (by decide)) (fr 65 (by decide)) (fr 66 (by decide))
    rw [e] at r1
    rw [e'] at r2
    refine ⟨_, m1, m2, r1, r2, ?_⟩
    generalize rdO M (M (46 + 2 * kk)) (45 + 2 * kk) a f nn 0 = o at re re'
    rcases re with ⟨o1, q1⟩ | ⟨o1, mm, t, q1, w⟩
    · rcases re' with ⟨_, q2⟩ | ⟨o2, _⟩
      · exact Inv_fr h (Fr_trans (FrM_fr q2) (FrL_fr q1))
      · exact absurd o1 (by omega)
    · rcases re' with ⟨o2, _⟩ | ⟨_, pc, t30, u1, u2, u3⟩
      · exact absurd o1 (by omega)
      · generalize rdG M (M (46 + 2 * kk)) f o.2.2.1 = g at t pc
        have cp : cpP 1 9 := by
          unfold cpP
          omega
        have cy : ∀ y : Nat, y ≠ 0 → m1 y = cpyM mm 1 9 y := fun y hy => by rw [w, mupd_ne _ _ _ hy]
        have b : ∀ y : Nat, y ≠ 0 → y ≠ 53 → y ≠ 54 → m2 y = cpyM mm 1 9 y := fun y h0 h1 h2 => by rw [u1 y h1 h2, cy y h0]
        obtain ⟨s1, s2, s3, s4, s5, s6, s7⟩ := cpy_same mm cp
        obtain ⟨tc, t1, t2, t3, t4, t5, t6, t7⟩ := t
        have m54 : ∀ i : Int, 60 ≤ i → i < 255 → m2 54 i = M 54 i := fun i a b => by rw [u3 i a b, fr 54 (by decide)]
        have v5 : m2 1 5 = M 1 5 := by
          rw [b 1 (by decide) (by decide) (by decide)]
          exact s6.trans t4
        have v6 : m2 1 6 = M 1 6 := by
          rw [b 1 (by decide) (by decide) (by decide)]
          exact s7.trans t7
        have n5 : 0 ≤ M 1 5 ∧ M 1 5 ≤ 5 := hc.2.1
        have n6 : 0 ≤ M 1 6 ∧ M 1 6 ≤ 8 := hc.2.2.2.1
        refine Inv_c2 h (Cht_eq (cpy_cht cp tc) (fun y a c => b y (by omega) (by omega) (by omega))) (Pg_of0 ⟨fun i a c => ?_, fun x a c => ?_, ?_, fun l x a c d e => ?_, ?_, fun i a c => ?_⟩) (fun y a c d => ?_) (fun i a c => m54 i (by omega) c) ?_ ?_ ?_ ?_ ?_
        · rw [b 2 (by decide) (by decide) (by decide)]
          have q := pc.1 i a c
          rw [Int.zero_add] at q
          rw [q]
          exact ((s1 i a c).trans (t1 i a c)).symm
        · rw [b 3 (by decide) (by decide) (by decide)]
          have q := (pc.2.1 x a c).1
          rw [Int.zero_add] at q
          rw [q]
          exact ((s2 x (by omega) (by omega)).trans (t2 x a c)).symm
        · rw [v5]
          exact pc.2.2.1
        · rw [v5] at c
          rw [b 4 (by decide) (by decide) (by decide)]
          have q := pc.2.2.2 l x a c d e
          rw [Int.zero_add] at q
          rw [q]
          exact ((s3 (4 * l + x) (by omega) (by omega)).trans (t3 (4 * l + x) (by omega) (by omega))).symm
        · rw [v6, m54 60 (by decide) (by decide)]
          exact hp.2.2.2.2.1
        · rw [v6] at c
          have g5 : cpyM mm 1 9 5 i = M 5 i := (s4 i a (by omega)).trans (t5 i a (by omega))
          have g6 : cpyM mm 1 9 6 i = M 6 i := (s5 i a (by omega)).trans (t6 i a (by omega))
          rw [b 5 (by decide) (by decide) (by decide), b 6 (by decide) (by decide) (by decide), g5, g6, m54 _ (by omega) (by omega), m54 (62 + 3 * i) (by omega) (by omega), m54 (63 + 3 * i) (by omega) (by omega)]
          exact hp.2.2.2.2.2 i a c
        · rw [b y (by omega) c d, cpy_ne mm (by omega), q1.1 y (by omega)]
        · rw [u1 0 (by decide) (by decide), w, mupd_at, fup_ne _ _ (by decide), cpy_ne mm (by omega), q1.2.1]
        · rw [u2 5 (by decide), fr 53 (by decide)]
        · rw [u2 6 (by decide), fr 53 (by decide)]
        · rw [u2 22 (by decide), fr 53 (by decide)]
        · rw [u1 0 (by decide) (by decide), w, mupd_at, fup_at, t30]
  · refine ⟨-1, M, M, ⟨⟨by decide, Nat.le_of_ble_eq_true rfl⟩, fun K hK => q_L_read_0 hK k a f n M ⟨_, _, R_isSheet 8 M k, ⟨fun _ => mret_i rfl rfl, fun q => ⟨_, _, R_isLane 8 M a, ⟨fun _ => mret_i rfl rfl, fun q1 => ⟨fun _ => mret_i rfl rfl, fun q2 => br_f (fun q3 => c ⟨b2_n0.mp q, b2_n0.mp q1, by omega⟩) (mret_i rfl rfl)⟩⟩⟩⟩⟩⟩, ⟨⟨by decide, Nat.le_of_ble_eq_true rfl⟩, fun K hK => q_M_read_0 hK k a f n M ⟨_, _, R_in 8 _ _ _ _, ⟨fun _ => mret_i rfl rfl, fun q => ⟨_, _, R_in 8 _ _ _ _, ⟨fun _ => mret_i rfl rfl, fun q1 => ⟨_, _, R_in 8 _ _ _ _, br_f (fun q2 => ?_) (mret_i rfl rfl)⟩⟩⟩⟩⟩⟩, h⟩
    have q := b2_n0.mp q
    have q1 := b2_n0.mp q1
    have q2 := b2_n0.mp q2
    exact c ⟨by omega, by omega, by omega⟩
end
