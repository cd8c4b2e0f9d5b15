/-! PURE PROOFS 61: need comes to its end: the class -/
def PairU (y1 y2 : Nat) (as : List mVal) (M : mMem) : Prop := ∃ v v2 m1 m2, mR3 10 y1 (vr 0 :: as) (S0, M) (some (vi v), (S0, m1)) ∧ mR3 10 y2 (vr 53 :: as) (S0, m1) (some (vi v2), (S0, m2)) ∧ Inv m2
theorem T_cong2 {m M : mMem} {f s r : Int → Int} (h : TrC m M f s) (e : ∀ i : Int, 1 ≤ i → i ≤ 3 → s i = r i) : TrC m M f r :=
  ⟨h.1, h.2.1, fun i a b => by rw [h.2.2.1 i a b, e i a b], h.2.2.2⟩
theorem T_back {m M : mMem} {g s : Int → Int} {t c : Int} (h : TrC m M (fup g t c) (fup s c (s c - 1))) (ht : 0 ≤ t ∧ t < 36) (hc : 1 ≤ c ∧ c ≤ 3) (g0 : g t = 0) (s9 : 0 ≤ s c ∧ s c ≤ 99) : TrC (putM (mupd m (9 + 2) (m (9 + 1) t) (w32 (m (9 + 2) (m (9 + 1) t) + 1))) 9 t 0) M g s := by
  have e1 : m (9 + 1) t = c := by
    have q : m 10 t = fup g t c t := h.2.1 t ht.1 ht.2
    rw [fup_at] at q
    exact q
  have e2 : m (9 + 2) c = s c - 1 := by
    have q : m 11 c = fup s c (s c - 1) c := h.2.2.1 c hc.1 hc.2
    rw [fup_at] at q
    exact q
  rw [e1, e2, w32_s (z := s c - 1 + 1) (by omega) (by omega), show s c - 1 + 1 = s c by omega]
  have t1 : TrC (mupd m (9 + 2) c (s c)) M (fup g t c) s := by
    obtain ⟨k, h1, h2, h3, h4, h5, h6, h7⟩ := h
    have u : ∀ j : Nat, j ≠ 11 → mupd m (9 + 2) c (s c) j = m j := fun j hj => mupd_ne _ _ _ hj
    have u11 : mupd m (9 + 2) c (s c) 11 = fup (m 11) c (s c) := mupd_at m 11 c (s c)
    have sp : ∀ x : Int, 1 ≤ x → x ≤ 3 → mupd m (9 + 2) c (s c) 11 x = s x := fun x a b => by
      rw [u11]
      unfold fup
      split
      · rename_i z
        rw [z]
      · rename_i z
        rw [h2 x a b, fup_ne _ _ z]
    refine ⟨Cht_mk k (u 10 (by decide)) (u 15 (by decide)) (u 16 (by decide)) ?_ ?_ ?_ ?_ (fun x a b => ?_), ?_, sp, ?_, ?_, ?_, ?_, ?_⟩
    · rw [u 9 (by decide)]
      exact k.2.1
    · rw [u 9 (by decide), u (9 + 3) (by decide)]
      exact k.2.2.1
    · rw [u 9 (by decide)]
      exact k.2.2.2.1
    · rw [u 9 (by decide), u (9 + 4) (by decide), u (9 + 5) (by decide)]
      exact k.2.2.2.2.1
    · have q := sp x a b
      have r : mupd m (9 + 2) c (s c) (9 + 2) x = s x := q
      rw [r]
      by_cases z : x = c
      · rw [z]
        exact s9
      · have w : m 11 x = s x := by rw [h2 x a b, fup_ne _ _ z]
        have y : 0 ≤ m 11 x ∧ m 11 x ≤ 99 := k.2.2.2.2.2 x a b
        omega
    · rw [u 10 (by decide)]
      exact h1
    · rw [u 12 (by decide)]
      exact h3
    · rw [u 9 (by decide)]
      exact h4
    · rw [u 13 (by decide)]
      exact h5
    · rw [u 14 (by decide)]
      exact h6
    · rw [u 9 (by decide)]
      exact h7
  refine T_cong (T_put t1 ht (v := 0) (by omega)) (fun y _ _ => ?_)
  unfold fup
  split
  · rename_i z
    rw [z, g0]
  · rfl
theorem L_hsa (d : Nat) {M m : mMem} {g s : Int → Int} {l t i : Int} (hl : 0 ≤ l ∧ l < M 1 5) (ht : 0 ≤ t ∧ t < 36) (hi : 0 ≤ i ∧ i < 2) (h : TrC m M g s) (hm : FrL m M) : mI3 (d + 3) 100 [vr 0, vi l, vi t, vi i] m (fun v m' => (v = 0 ∨ v = 1) ∧ TrC m' M g s ∧ FrL m' M) := by
  refine mI3_i ⟨by decide, Nat.le_of_ble_eq_true rfl⟩ (fun K hK => q_L_holdsByStitchAt_0 hK l t i m ?_)
  have step : ∀ c : Int, 1 ≤ c → c ≤ 3 → (∀ m', TrC m' M g s → FrL m' M → K 3 [(0, vr 0), (1, vi l), (2, vi t), (3, vi i), (4, vi (c + 1))] [] (S0, m')) → ∀ m', TrC m' M g s → FrL m' M → K 3 [(0, vr 0), (1, vi l), (2, vi t), (3, vi i), (4, vi c)] [] (S0, m') := by
    intro c c1 c3 nx m' h0 h1
    have ew : w32 (c + 1) = c + 1 := w32_s (by omega) (by omega)
    refine q_L_holdsByStitchAt_3 hK _ _ _ _ m' (br_f (by omega) ⟨_, _, T_can (d + 1) h0 ht ⟨c1, c3⟩, ?_⟩)
    rw [ew]
    refine ⟨fun _ => nx m' h0 h1, fun q => ?_⟩
    have q := b2_n0.mp q
    have t1 := T_put h0 ht (v := c) (by omega)
    have t2 : TrC (putM (putM m' 9 t c) 9 t 0) M g s := T_cong (T_put t1 ht (v := 0) (by omega)) (fun y _ _ => by
      unfold fup
      split
      · rename_i e
        rw [e, q.1]
      · rfl)
    have fr : FrL (putM (putM m' 9 t c) 9 t 0) M := FrL_row h1 (fun k a _ _ _ _ _ => by rw [put_ne _ _ _ _ (by omega) (by omega) (by omega), put_ne _ _ _ _ (by omega) (by omega) (by omega)])
    have k48 : ∀ s0 : Int, K 48 [(0, vr 0), (1, vi l), (2, vi t), (3, vi i), (4, vi c)] [vi s0] (S0, putM m' 9 t c) := by
      intro s0
      refine q_L_holdsByStitchAt_48 hK _ _ _ _ s0 _ ⟨_, R_put d _ 9 (by omega) t 0 ht (by omega) t1.1.1.1, fun _ => ?_, fun _ => ⟨_, _, R_stitchCode (d + 1) _ ht (by omega), mIn_i hi.1 (by omega) (rI_i ⟨Or.inr rfl, T_eq t2 (fun k a b => mupd_ne _ _ _ (by omega)) (by rw [mupd_ne _ _ _ (by decide)]) (by rw [mupd_ne _ _ _ (by decide)]), FrL_row fr (fun k _ _ a _ _ _ => mupd_ne _ _ _ a)⟩)⟩⟩
      rw [ew]
      exact nx _ t2 fr
    exact ⟨_, R_put d m' 9 (by omega) t c ht (by omega) h0.1.1.1, _, _, T_reads d t1 hl, fun _ => k48 0, fun _ => k48 1⟩
  refine step 1 (by decide) (by decide) (fun m2 a b => ?_) m h hm
  refine step 2 (by decide) (by decide) (fun m3 a b => ?_) m2 a b
  refine step 3 (by decide) (by decide) (fun m4 a b => ?_) m3 a b
  exact q_L_holdsByStitchAt_3 hK _ _ _ _ m4 (br_t (by decide) (rI_i ⟨Or.inl rfl, a, b⟩))
theorem R_pbr (d : Nat) (m : mMem) {x : Int} (hx : 0 ≤ x ∧ x < 36) : mR3 (d + 2) 101 [vi x] (S0, m) (some (vi (6 * (x % 6) + x / 6)), (S0, m)) := by
  refine ⟨⟨by decide, Nat.le_of_ble_eq_true rfl⟩, fun K hK => q_L_placeByRows_0 hK x m ?_⟩
  rw [jrem_nn hx.1, jdiv_nn hx.1 (by omega) (by omega)]
  exact ⟨_, _, R_place d m (x := x % 6) (y := x / 6) (by omega) (by omega), mret_i rfl rfl⟩
theorem L_one (d : Nat) {M m : mMem} {g s : Int → Int} {l : Int} (hl : 0 ≤ l ∧ l < M 1 5) (h : TrC m M g s) (hm : FrL m M) : mI3 (d + 4) 98 [vr 0, vi l] m (fun v m' => (v = 0 ∨ v = 1) ∧ TrC m' M g s ∧ FrL m' M) := by
  refine mI3_i ⟨by decide, Nat.le_of_ble_eq_true rfl⟩ (fun K hK => q_L_holdsByOne_0 hK l m ?_)
  have loop : ∀ (j i : Nat), i + j = 36 → ∀ m', TrC m' M g s → FrL m' M → K 2 [(0, vr 0), (1, vi l), (2, vi (i : Int))] [] (S0, m') := by
    intro j
    induction j with
    | zero =>
      intro i hi m' a b
      rw [show i = 36 by omega]
      exact q_L_holdsByOne_2 hK _ _ m' (br_t (by decide) (rI_i ⟨Or.inl rfl, a, b⟩))
    | succ j ih =>
      intro i hi m' a b
      have ew : w32 ((i : Int) + 1) = ((i + 1 : Nat) : Int) := by rw [w32_s (by omega) (by omega)]; omega
      refine q_L_holdsByOne_2 hK _ _ m' (br_f (by omega) ⟨_, _, R_pbr (d + 1) m' (x := (i : Int)) (by omega), cI (L_hsa d hl (t := 6 * ((i : Int) % 6) + (i : Int) / 6) (i := 0) (by omega) (by omega) a b) (fun v m2 p => ?_)⟩)
      rw [ew]
      exact ⟨fun _ => ih (i + 1) (by omega) m2 p.2.1 p.2.2, fun _ => rI_i ⟨Or.inr rfl, p.2⟩⟩
  exact loop 36 0 (by omega) m h hm
theorem L_two (d : Nat) {M m : mMem} {g s : Int → Int} {l : Int} (hl : 0 ≤ l ∧ l < M 1 5) (s9 : ∀ c : Int, 1 ≤ c → c ≤ 3 → 0 ≤ s c ∧ s c ≤ 99) (h : TrC m M g s) (hm : FrL m M) : mI3 (d + 4) 99 [vr 0, vi l] m (fun v m' => (v = 0 ∨ v = 1) ∧ FrL m' M) := by
  refine mI3_i ⟨by decide, Nat.le_of_ble_eq_true rfl⟩ (fun K hK => q_L_holdsByTwo_0 hK l m ?_)
  have step : ∀ (x t c : Int), 0 ≤ t ∧ t < 36 → 1 ≤ c → c ≤ 3 → (∀ m', TrC m' M g s → FrL m' M → K 16 [(0, vr 0), (1, vi l), (2, vi x), (3, vi t), (4, vi (c + 1))] [] (S0, m')) → ∀ m', TrC m' M g s → FrL m' M → K 16 [(0, vr 0), (1, vi l), (2, vi x), (3, vi t), (4, vi c)] [] (S0, m') := by
    intro x t c ht c1 c3 nx m' h0 h1
    have ew : w32 (c + 1) = c + 1 := w32_s (by omega) (by omega)
    have j1 : jdiv t 6 = t / 6 := jdiv_nn ht.1 (by omega) (by omega)
    have j2 : jrem t 6 = t % 6 := jrem_nn ht.1
    have w6 : w32 (t + 6) = t + 6 := w32_s (by omega) (by omega)
    have w1 : w32 (t + 1) = t + 1 := w32_s (by omega) (by omega)
    refine q_L_holdsByTwo_16 hK _ _ _ _ m' (br_f (by omega) ⟨_, _, T_can (d + 2) h0 ht ⟨c1, c3⟩, ?_⟩)
    rw [ew]
    refine ⟨fun _ => nx m' h0 h1, fun q => ?_⟩
    have q := b2_n0.mp q
    have t1 := T_take h0 ht ⟨c1, c3⟩ q.2
    have f1 : FrL (takeM m' 9 t c) M := FrL_row h1 (fun k a _ _ _ _ _ => takeM_ne m' 9 t c (by omega) (by omega) (by omega) (by omega))
    have back : ∀ m2, TrC m2 M (fup g t c) (fup s c (s c - 1)) → FrL m2 M → K 112 [(0, vr 0), (1, vi l), (2, vi x), (3, vi t), (4, vi c)] [] (S0, m2) := by
      intro m2 a b
      have mt : m2 (9 + 1) t = c := by
        have z : m2 10 t = fup g t c t := a.2.1 t ht.1 ht.2
        rw [fup_at] at z
        exact z
      refine q_L_holdsByTwo_112 hK _ _ _ _ m2 ⟨_, R_takeBack d m2 9 (by omega) t ht a.1.1.1 (by rw [mt]; exact c3), ?_⟩
      rw [ew]
      refine nx _ (T_back a ht ⟨c1, c3⟩ q.1 (s9 c c1 c3)) (FrL_row b (fun k z _ _ _ _ _ => ?_))
      rw [put_ne _ _ _ _ (by omega) (by omega) (by omega), mupd_ne _ _ _ (by omega)]
    have k83 : ∀ s0 m2, TrC m2 M (fup g t c) (fup s c (s c - 1)) → FrL m2 M → K 83 [(0, vr 0), (1, vi l), (2, vi x), (3, vi t), (4, vi c)] [vi s0] (S0, m2) := by
      intro s0 m2 a b
      refine q_L_holdsByTwo_83 hK _ _ _ _ s0 m2 ⟨fun _ => rI_i ⟨Or.inr rfl, b⟩, fun _ => ?_⟩
      rw [j2, w1]
      exact ⟨fun _ => back m2 a b, fun y => cI (L_hsa d hl (t := t + 1) (i := 1) (by omega) (by omega) a b) (fun v m3 p => ⟨fun _ => back m3 p.2.1 p.2.2, fun _ => rI_i ⟨Or.inr rfl, p.2.2⟩⟩)⟩
    refine ⟨_, R_take d m' 9 (by omega) t c ht ⟨c1, c3⟩ h0.1.1.1, _, _, R_stitchCode (d + 2) _ ht (by omega), ?_⟩
    show (5 ≤ jdiv t 6 → K 83 _ _ (S0, mupd (takeM m' 9 t c) 39 0 _)) ∧ _
    have t2 : TrC (mupd (takeM m' 9 t c) 39 0 (100 * (t / 6) + 10 * (t % 6) + c)) M (fup g t c) (fup s c (s c - 1)) := T_eq t1 (fun k a b => mupd_ne _ _ _ (by omega)) (by rw [mupd_ne _ _ _ (by decide)]) (by rw [mupd_ne _ _ _ (by decide)])
    have f2 : FrL (mupd (takeM m' 9 t c) 39 0 (100 * (t / 6) + 10 * (t % 6) + c)) M := FrL_row f1 (fun k _ _ a _ _ _ => mupd_ne _ _ _ a)
    refine ⟨fun _ => k83 0 _ t2 f2, fun y => ?_⟩
    rw [j1] at y
    rw [w6]
    exact cI (L_hsa d hl (t := t + 6) (i := 1) (by omega) (by omega) t2 f2) (fun v m3 p => ⟨fun _ => k83 0 m3 p.2.1 p.2.2, fun _ => k83 1 m3 p.2.1 p.2.2⟩)
  have loop : ∀ (j i : Nat), i + j = 36 → ∀ m', TrC m' M g s → FrL m' M → K 2 [(0, vr 0), (1, vi l), (2, vi (i : Int))] [] (S0, m') := by
    intro j
    induction j with
    | zero =>
      intro i hi m' a b
      rw [show i = 36 by omega]
      exact q_L_holdsByTwo_2 hK _ _ m' (br_t (by decide) (rI_i ⟨Or.inl rfl, b⟩))
    | succ j ih =>
      intro i hi m' a b
      have ew : w32 ((i : Int) + 1) = ((i + 1 : Nat) : Int) := by rw [w32_s (by omega) (by omega)]; omega
      have tb : 0 ≤ 6 * ((i : Int) % 6) + (i : Int) / 6 ∧ 6 * ((i : Int) % 6) + (i : Int) / 6 < 36 := by omega
      refine q_L_holdsByTwo_2 hK _ _ m' (br_f (by omega) ⟨_, _, R_pbr (d + 1) m' (x := (i : Int)) (by omega), ?_⟩)
      refine step _ _ 1 tb (by decide) (by decide) (fun m2 a b => ?_) m' a b
      refine step _ _ 2 tb (by decide) (by decide) (fun m3 a b => ?_) m2 a b
      refine step _ _ 3 tb (by decide) (by decide) (fun m4 a b => ?_) m3 a b
      refine q_L_holdsByTwo_16 hK _ _ _ _ m4 (br_t (by decide) ?_)
      rw [ew]
      exact ih (i + 1) (by omega) m4 a b
  exact loop 36 0 (by omega) m h hm
theorem L_needs {M : mMem} (hc : Cht M 1) (l x : Int) : mI3 10 66 [vr 0, vi l, vi x] M (fun _ m => FrL m M) := by
  refine mI3_i ⟨by decide, Nat.le_of_ble_eq_true rfl⟩ (fun K hK => q_L_need_0 hK l x M ⟨_, _, R_isLaw 8 M l, fun _ => rI_i (FrL_refl M), fun q => ?_⟩)
  have hl := b2_n0.mp q
  have n5 : 0 ≤ M 1 5 ∧ M 1 5 ≤ 5 := hc.2.1
  have fw : mI3 9 97 [vr 0, vi l] M (fun v m => (v = 0 ∨ v = 1 ∨ v = 2 ∨ v = -4) ∧ FrL m M) := by
    have t0 := T_copy (m := M) hc (fun _ _ _ => rfl)
    have f0 : FrL (cpyM M 9 1) M := FrL_row (FrL_refl M) (fun k a _ _ _ _ _ => cpy_ne M (by omega))
    refine mI3_i ⟨by decide, Nat.le_of_ble_eq_true rfl⟩ (fun K hK => q_L_fewestToHold_0 hK l M ⟨_, _, R_reads 6 M 1 (by omega) l (M 1 5) hc.1 hc.2.2.1 hl n5.2, fun _ => ⟨_, R_copyFrom 7 M 9 1 (by unfold cpP; omega), cI (L_one 4 hl t0 f0) (fun v m2 p => ⟨fun _ => ?_, fun _ => rI_i ⟨by omega, p.2.2⟩⟩)⟩, fun _ => rI_i ⟨by omega, FrL_refl M⟩⟩)
    exact cI (L_two 4 hl (fun c a b => hc.2.2.2.2.2 c a b) p.2.1 p.2.2) (fun v m3 p3 => ⟨fun _ => rI_i ⟨by omega, p3.2⟩, fun _ => rI_i ⟨by omega, p3.2⟩⟩)
  have k26 : (x = 0 ∨ x = 10 ∨ x = 11) → K 26 [(0, vr 0), (1, vi l), (2, vi x)] [] (S0, M) := by
    intro hx
    refine q_L_need_26 hK l x M (cI fw (fun v m p => ?_))
    refine ⟨fun _ => rI_i p.2, fun _ => ⟨fun y => ?_, fun _ => rI_i p.2⟩⟩
    rw [w32_s (z := x - 10) (by omega) (by omega)]
    exact ⟨fun _ => rI_i p.2, fun y2 => mIn_i (by omega) (by omega) (rI_i p.2)⟩
  exact ⟨fun y => k26 (by omega), fun _ => ⟨fun y => k26 (by omega), fun _ => ⟨fun y => k26 (by omega), fun _ => rI_i (FrL_refl M)⟩⟩⟩
