/-! PURE PROOFS 31: what is tried, on both sides -/
def FrL (m M : mMem) : Prop := (∀ k : Nat, (1 ≤ k ∧ k ≤ 8) ∨ (17 ≤ k ∧ k ≤ 36) ∨ k = 38 ∨ k = 40 ∨ k = 41 ∨ 45 ≤ k → m k = M k) ∧ m 0 13 = M 0 13 ∧ m 0 16 = M 0 16
def FrM (m M : mMem) : Prop := (∀ k : Nat, k ≠ 53 → k ≠ 54 → k ≠ 59 → k ≠ 61 → k ≠ 62 → m k = M k) ∧ m 53 5 = M 53 5 ∧ m 53 6 = M 53 6 ∧ m 53 22 = M 53 22 ∧ m 53 30 = M 53 30 ∧ ∀ i : Int, 0 ≤ i → i < 255 → m 54 i = M 54 i
theorem FrL_refl (M : mMem) : FrL M M := ⟨fun _ _ => rfl, rfl, rfl⟩
theorem FrM_refl (M : mMem) : FrM M M := ⟨fun _ _ _ _ _ _ => rfl, rfl, rfl, rfl, rfl, fun _ _ _ => rfl⟩
theorem FrL_trans {A B C : mMem} (h : FrL A B) (g : FrL B C) : FrL A C := ⟨fun k q => (h.1 k q).trans (g.1 k q), h.2.1.trans g.2.1, h.2.2.trans g.2.2⟩
theorem FrM_trans {A B C : mMem} (h : FrM A B) (g : FrM B C) : FrM A C := ⟨fun k a b c d e => (h.1 k a b c d e).trans (g.1 k a b c d e), h.2.1.trans g.2.1, h.2.2.1.trans g.2.2.1, h.2.2.2.1.trans g.2.2.2.1, h.2.2.2.2.1.trans g.2.2.2.2.1, fun i a b => (h.2.2.2.2.2 i a b).trans (g.2.2.2.2.2 i a b)⟩
theorem FrL_fr {m M : mMem} (h : FrL m M) : Fr m M := by
  obtain ⟨r, a, b⟩ := h
  refine ⟨fun k q => r k (by unfold kept at q; omega), a, b, ?_, ?_, ?_, ?_, ?_, ?_, fun i _ _ => ?_⟩
  · rw [r 35 (by omega)]
  · rw [r 35 (by omega)]
  · rw [r 53 (by omega)]
  · rw [r 53 (by omega)]
  · rw [r 53 (by omega)]
  · rw [r 53 (by omega)]
  · rw [r 54 (by omega)]
theorem FrM_fr {m M : mMem} (h : FrM m M) : Fr m M := by
  obtain ⟨r, a, b, c, d, e⟩ := h
  refine ⟨fun k q => r k (by unfold kept at q; omega) (by unfold kept at q; omega) (by unfold kept at q; omega) (by unfold kept at q; omega) (by unfold kept at q; omega), ?_, ?_, ?_, ?_, a, b, c, d, e⟩
  · rw [r 0 (by decide) (by decide) (by decide) (by decide) (by decide)]
  · rw [r 0 (by decide) (by decide) (by decide) (by decide) (by decide)]
  · rw [r 35 (by decide) (by decide) (by decide) (by decide) (by decide)]
  · rw [r 35 (by decide) (by decide) (by decide) (by decide) (by decide)]
/-- trial rows and scratch rows alone have changed -/
theorem FrL_row {m' m M : mMem} (h : FrL m M) (e : ∀ k : Nat, (k < 9 ∨ 17 ≤ k) → k ≠ 37 → k ≠ 39 → k ≠ 42 → k ≠ 43 → k ≠ 44 → m' k = m k) : FrL m' M :=
  FrL_trans ⟨fun k q => e k (by omega) (by omega) (by omega) (by omega) (by omega) (by omega), by rw [e 0 (by decide) (by decide) (by decide) (by decide) (by decide) (by decide)], by rw [e 0 (by decide) (by decide) (by decide) (by decide) (by decide) (by decide)]⟩ h
theorem ask_pair {y1 y2 : Nat} {as : List mVal} {M : mMem} {V : Int} (h : Inv M) (a : mI3 10 y1 (vr 0 :: as) M (fun v m => v = V ∧ FrL m M)) (b : ∀ m, FrL m M → mI3 10 y2 (vr 53 :: as) m (fun v m' => v = V ∧ FrM m' m)) : PairI y1 y2 as M := by
  obtain ⟨v, m, ⟨e, f⟩, r⟩ := a
  obtain ⟨v', m', ⟨e', f'⟩, r'⟩ := b m f
  rw [e] at r
  rw [e'] at r'
  exact ⟨V, m, m', r, r', Inv_fr h (Fr_trans (FrM_fr f') (FrL_fr f))⟩
theorem woS_cong {L L' f f' : Int → Int} {n : Nat} (hL : ∀ i : Int, 0 ≤ i → i < 4 * (n : Int) → L i = L' i) (hf : ∀ i : Int, 0 ≤ i → i < 36 → f i = f' i) : woS L f n = woS L' f' n :=
  sm_cong (fun k hk => by rw [hL (4 * (k : Int) + 3) (by omega) (by omega), rdL_cong (hL _ (by omega) (by omega)) (hL _ (by omega) (by omega)) (hL _ (by omega) (by omega)) hf])
theorem hb_cong {L L' f f' : Int → Int} {n : Nat} (hL : ∀ i : Int, 0 ≤ i → i < 4 * (n : Int) → L i = L' i) (hf : ∀ i : Int, 0 ≤ i → i < 36 → f i = f' i) : hbF (fun l => rdL L f l) n = hbF (fun l => rdL L' f' l) n :=
  hbF_cong (fun k hk => rdL_cong (hL _ (by omega) (by omega)) (hL _ (by omega) (by omega)) (hL _ (by omega) (by omega)) hf)
/-- the trial has the cells f, the threads s, and the laws and the plan of the charter -/
def TrC (m M : mMem) (f s : Int → Int) : Prop := Cht m 9 ∧ (∀ i : Int, 0 ≤ i → i < 36 → m 10 i = f i) ∧ (∀ c : Int, 1 ≤ c → c ≤ 3 → m 11 c = s c) ∧ (∀ i : Int, 0 ≤ i → i < 20 → m 12 i = M 4 i) ∧ m 9 5 = M 1 5 ∧ (∀ i : Int, 0 ≤ i → i < 8 → m 13 i = M 5 i) ∧ (∀ i : Int, 0 ≤ i → i < 8 → m 14 i = M 6 i) ∧ m 9 6 = M 1 6
theorem T_copy {m M : mMem} (h : Cht M 1) (e : ∀ k : Nat, 1 ≤ k → k ≤ 8 → m k = M k) : TrC (cpyM m 9 1) M (M 2) (M 3) := by
  have cp : cpP 9 1 := by
    unfold cpP
    omega
  have hc : Cht m 1 := Cht_eq h (fun k q0 q1 => e k q0 (by omega))
  obtain ⟨s1, s2, s3, s4, s5, s6, s7⟩ := cpy_same m cp
  refine ⟨cpy_cht cp hc, fun i q0 q1 => ?_, fun c q0 q1 => ?_, fun i q0 q1 => ?_, ?_, fun i q0 q1 => ?_, fun i q0 q1 => ?_, ?_⟩
  · rw [← e 2 (by decide) (by decide)]
    exact s1 i q0 q1
  · rw [← e 3 (by decide) (by decide)]
    exact s2 c (by omega) (by omega)
  · rw [← e 4 (by decide) (by decide)]
    exact s3 i q0 q1
  · rw [← e 1 (by decide) (by decide)]
    exact s6
  · rw [← e 5 (by decide) (by decide)]
    exact s4 i q0 q1
  · rw [← e 6 (by decide) (by decide)]
    exact s5 i q0 q1
  · rw [← e 1 (by decide) (by decide)]
    exact s7
theorem T_eq {m m' M : mMem} {f s : Int → Int} (h : TrC m M f s) (e : ∀ k : Nat, 10 ≤ k → k ≤ 16 → m' k = m k) (e5 : m' 9 5 = m 9 5) (e6 : m' 9 6 = m 9 6) : TrC m' M f s := by
  obtain ⟨c, h1, h2, h3, h4, h5, h6, h7⟩ := h
  have sm : Same m' 9 m 9 := ⟨fun i _ _ => by rw [e (9 + 1) (by decide) (by decide)], fun i _ _ => by rw [e (9 + 2) (by decide) (by decide)], fun i _ _ => by rw [e (9 + 3) (by decide) (by decide)], fun i _ _ => by rw [e (9 + 4) (by decide) (by decide)], fun i _ _ => by rw [e (9 + 5) (by decide) (by decide)], e5, e6⟩
  have cc : Cht m' 9 := Cht_of c sm (fun i _ _ => by rw [e (9 + 6) (by decide) (by decide)]) (fun i _ _ => by rw [e (9 + 7) (by decide) (by decide)])
  unfold TrC
  rw [e 10 (by decide) (by decide), e 11 (by decide) (by decide), e 12 (by decide) (by decide), e 13 (by decide) (by decide), e 14 (by decide) (by decide), e5, e6]
  exact ⟨cc, h1, h2, h3, h4, h5, h6, h7⟩
theorem T_put {m M : mMem} {f s : Int → Int} {t v : Int} (h : TrC m M f s) (ht : 0 ≤ t ∧ t < 36) (hv : 0 ≤ v ∧ v ≤ 4) : TrC (putM m 9 t v) M (fup f t v) s := by
  obtain ⟨c, h1, h2, h3, h4, h5, h6, h7⟩ := h
  have cc := put_cht c ht hv
  have e1 : putM m 9 t v 10 = fup (m 10) t v := put_cel m 9 t v
  have e : ∀ k : Nat, k ≠ 10 → k ≠ 15 → k ≠ 16 → putM m 9 t v k = m k := fun k a b c => put_ne _ _ _ _ a b c
  unfold TrC
  rw [e1, e 11 (by decide) (by decide) (by decide), e 12 (by decide) (by decide) (by decide), e 13 (by decide) (by decide) (by decide), e 14 (by decide) (by decide) (by decide), e 9 (by decide) (by decide) (by decide)]
  refine ⟨cc, fun i q0 q1 => ?_, h2, h3, h4, h5, h6, h7⟩
  unfold fup
  rw [h1 i q0 q1]
theorem T_take {m M : mMem} {f s : Int → Int} {t v : Int} (h : TrC m M f s) (ht : 0 ≤ t ∧ t < 36) (hv : 1 ≤ v ∧ v ≤ 3) (hs : 0 < s v) : TrC (takeM m 9 t v) M (fup f t v) (fup s v (s v - 1)) := by
  obtain ⟨c, h1, h2, h3, h4, h5, h6, h7⟩ := h
  have g2 : m 11 v = s v := h2 v hv.1 hv.2
  have cc := takeM_cht c ht hv (show 0 < m 11 v by omega)
  have s9 : 0 ≤ m 11 v ∧ m 11 v ≤ 99 := c.2.2.2.2.2 v hv.1 hv.2
  have e1 : takeM m 9 t v 10 = fup (m 10) t v := takeM_1 m 9 t v
  have e2 : takeM m 9 t v 11 = fup (m 11) v (w32 (m 11 v - 1)) := takeM_2 m 9 t v
  rw [w32_s (by omega) (by omega)] at e2
  have e : ∀ k : Nat, k ≠ 10 → k ≠ 11 → k ≠ 15 → k ≠ 16 → takeM m 9 t v k = m k := fun k a b c d => takeM_ne _ _ _ _ a b c d
  unfold TrC
  rw [e1, e2, e 12 (by decide) (by decide) (by decide) (by decide), e 13 (by decide) (by decide) (by decide) (by decide), e 14 (by decide) (by decide) (by decide) (by decide), e 9 (by decide) (by decide) (by decide) (by decide)]
  refine ⟨cc, fun i q0 q1 => ?_, fun i q0 q1 => ?_, h3, h4, h5, h6, h7⟩
  · unfold fup
    rw [h1 i q0 q1]
  · unfold fup
    rw [h2 i q0 q1, g2]
theorem T_worth (d : Nat) {m M : mMem} {f s : Int → Int} (h : TrC m M f s) {n : Nat} (hn : M 1 5 = n) (h5 : n ≤ 5) : mR3 (d + 3) 13 [vr 9] (S0, m) (some (vi (woS (M 4) f n)), (S0, m)) := by
  have hL := h.1.2.2.1
  have e5 : m 9 5 = n := by rw [h.2.2.2.2.1, hn]
  rw [e5] at hL
  have g := R_worth d m 9 (by omega) n e5 h5 h.1.1 hL
  rw [woS_cong (L' := M 4) (f' := f) (fun i q0 q1 => h.2.2.2.1 i q0 (by omega)) h.2.1] at g
  exact g
theorem T_held (d : Nat) {m M : mMem} {f s : Int → Int} (h : TrC m M f s) {n : Nat} (hn : M 1 5 = n) (h5 : n ≤ 5) : mR3 (d + 3) 14 [vr 9] (S0, m) (some (vi (hbF (fun l => rdL (M 4) f l) n)), (S0, m)) := by
  have hL := h.1.2.2.1
  have e5 : m 9 5 = n := by rw [h.2.2.2.2.1, hn]
  rw [e5] at hL
  have g := R_heldBits d m 9 (by omega) n e5 h5 h.1.1 hL
  rw [hb_cong (L' := M 4) (f' := f) (fun i q0 q1 => h.2.2.2.1 i q0 (by omega)) h.2.1] at g
  exact g
theorem T_reads (d : Nat) {m M : mMem} {f s : Int → Int} (h : TrC m M f s) {l : Int} (hl : 0 ≤ l ∧ l < M 1 5) : mR3 (d + 2) 10 [vr 9, vi l] (S0, m) (some (vi (rdL (M 4) f l)), (S0, m)) := by
  have e5 : m 9 5 = M 1 5 := h.2.2.2.2.1
  have b5 : 0 ≤ m 9 5 ∧ m 9 5 ≤ 5 := h.1.2.1
  have g := R_reads d m 9 (by omega) l (m 9 5) h.1.1 h.1.2.2.1 (by omega) b5.2
  have c : rdL (m (9 + 3)) (m (9 + 1)) l = rdL (M 4) f l := rdL_cong (h.2.2.2.1 _ (by omega) (by omega)) (h.2.2.2.1 _ (by omega) (by omega)) (h.2.2.2.1 _ (by omega) (by omega)) h.2.1
  rw [c] at g
  exact g
theorem T_can (d : Nat) {m M : mMem} {f s : Int → Int} (h : TrC m M f s) {t c : Int} (ht : 0 ≤ t ∧ t < 36) (hc : 1 ≤ c ∧ c ≤ 3) : mR3 (d + 1) 5 [vr 9, vi t, vi c] (S0, m) (some (vi (b2 (f t = 0 ∧ 0 < s c))), (S0, m)) := by
  have g := R_canTake d m 9 (by omega) t c ht hc
  have e1 : m (9 + 1) t = f t := h.2.1 t ht.1 ht.2
  have e2 : m (9 + 2) c = s c := h.2.2.1 c hc.1 hc.2
  rw [e1, e2] at g
  exact g
theorem T_cells (d : Nat) {m M : mMem} {f s : Int → Int} (h : TrC m M f s) (x : Int) : mR3 (d + 1) 15 [vr 9, vi x] (S0, m) (some (vi (cO f x 36)), (S0, m)) := by
  have g := R_cellsOf d m 9 (by omega) x
  have e : cO (m (9 + 1)) x 36 = cO f x 36 := cO_cong h.2.1
  rw [e] at g
  exact g
