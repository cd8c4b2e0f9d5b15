/-! PURE PROOFS 32: what is tried, on the other's page -/
def PgC (m M : mMem) (p : Int) (f s : Int → Int) : Prop := (∀ i : Int, 0 ≤ i → i < 36 → m 54 (p + i) = f i) ∧ (∀ c : Int, 1 ≤ c → c ≤ 3 → m 54 (p + 35 + c) + 20 = s c ∧ 0 ≤ s c ∧ s c ≤ 99) ∧ m 54 (p + 39) = M 1 5 ∧ (∀ l x : Int, 0 ≤ l → l < M 1 5 → 0 ≤ x → x < 4 → m 54 (p + 40 + 5 * x + l) = M 4 (4 * l + x))
theorem G_copy {m M : mMem} {p : Int} (h : Pg M 1 0) (hc : Cht M 1) (e : ∀ i : Int, 0 ≤ i → i < 85 → m 54 i = M 54 i) : PgC (mcpy m 54 0 54 p 85) M p (M 2) (M 3) := by
  obtain ⟨g1, g2, g3, g4, g5, g6⟩ := Pg0_of h
  have b5 : 0 ≤ M 1 5 ∧ M 1 5 ≤ 5 := hc.2.1
  have c : ∀ i : Int, 0 ≤ i → i < 85 → mcpy m 54 0 54 p 85 54 (p + i) = M 54 i := fun i q0 q1 => by
    unfold mcpy
    rw [if_pos ⟨rfl, by omega, by omega⟩, show 0 + (p + i - p) = i by omega, e i q0 q1]
  refine ⟨fun i q0 q1 => ?_, fun x q0 q1 => ⟨?_, hc.2.2.2.2.2 x q0 q1⟩, ?_, fun l x q0 q1 q2 q3 => ?_⟩
  · rw [c i q0 (by omega)]
    exact g1 i q0 q1
  · rw [show p + 35 + x = p + (35 + x) by omega, c _ (by omega) (by omega)]
    exact g2 x q0 q1
  · rw [c 39 (by omega) (by omega)]
    exact g3
  · rw [show p + 40 + 5 * x + l = p + (40 + 5 * x + l) by omega, c _ (by omega) (by omega)]
    exact g4 l x q0 q1 q2 q3
theorem G_eq {m m' M : mMem} {p : Int} {f s : Int → Int} (h : PgC m M p f s) (hc : Cht M 1) (e : ∀ i : Int, p ≤ i → i < p + 60 → m' 54 i = m 54 i) : PgC m' M p f s := by
  obtain ⟨h1, h2, h3, h4⟩ := h
  have b5 : 0 ≤ M 1 5 ∧ M 1 5 ≤ 5 := hc.2.1
  refine ⟨fun i q0 q1 => ?_, fun x q0 q1 => ?_, ?_, fun l x q0 q1 q2 q3 => ?_⟩
  · rw [e _ (by omega) (by omega)]
    exact h1 i q0 q1
  · rw [e _ (by omega) (by omega)]
    exact h2 x q0 q1
  · rw [e _ (by omega) (by omega)]
    exact h3
  · rw [e _ (by omega) (by omega)]
    exact h4 l x q0 q1 q2 q3
theorem G_L {m M : mMem} {p : Int} {f s : Int → Int} (h : PgC m M p f s) {i : Int} (q0 : 0 ≤ i) (q1 : i < 4 * M 1 5) : pgL m p i = M 4 i := by
  have g := h.2.2.2 (i / 4) (i % 4) (by omega) (by omega) (by omega) (by omega)
  rw [show 4 * (i / 4) + i % 4 = i by omega] at g
  exact g
theorem G_law {m M : mMem} {p : Int} {f s : Int → Int} (h : PgC m M p f s) (hc : Cht M 1) : lawOK (pgL m p) (M 1 5) := by
  intro l h0 h1
  have g := hc.2.2.1 l h0 h1
  rw [G_L h (i := 4 * l) (by omega) (by omega), G_L h (i := 4 * l + 1) (by omega) (by omega), G_L h (i := 4 * l + 2) (by omega) (by omega), G_L h (i := 4 * l + 3) (by omega) (by omega)]
  exact g
theorem G_worth (d : Nat) {m M : mMem} {p : Int} {f s : Int → Int} (h : PgC m M p f s) (hp : 0 ≤ p ∧ p ≤ 425) (hc : Cht M 1) {n : Nat} (hn : M 1 5 = n) (h5 : n ≤ 5) : mR3 (d + 3) 134 [vr 53, vi p] (S0, m) (some (vi (woS (M 4) f n)), (S0, m)) := by
  have hL := G_law h hc
  rw [hn] at hL
  have g := R_worthOn d m p n hp (by rw [h.2.2.1, hn]) h5 hL
  rw [woS_cong (L := pgL m p) (L' := M 4) (f := pg m p) (f' := f) (fun i q0 q1 => G_L h q0 (by omega)) h.1] at g
  exact g
theorem G_held (d : Nat) {m M : mMem} {p : Int} {f s : Int → Int} (h : PgC m M p f s) (hp : 0 ≤ p ∧ p ≤ 425) (hc : Cht M 1) {n : Nat} (hn : M 1 5 = n) (h5 : n ≤ 5) : mR3 (d + 3) 135 [vr 53, vi p] (S0, m) (some (vi (hbF (fun l => rdL (M 4) f l) n)), (S0, m)) := by
  have hL := G_law h hc
  rw [hn] at hL
  have g := R_heldOn d m p n hp (by rw [h.2.2.1, hn]) h5 hL
  rw [hb_cong (L := pgL m p) (L' := M 4) (f := pg m p) (f' := f) (fun i q0 q1 => G_L h q0 (by omega)) h.1] at g
  exact g
theorem G_reads (d : Nat) {m M : mMem} {p : Int} {f s : Int → Int} (h : PgC m M p f s) (hp : 0 ≤ p ∧ p ≤ 425) (hc : Cht M 1) {l : Int} (hl : 0 ≤ l ∧ l < M 1 5) : mR3 (d + 2) 133 [vr 53, vi p, vi l, vi 0] (S0, m) (some (vi (rdL (M 4) f l)), (S0, m)) := by
  have b5 : 0 ≤ M 1 5 ∧ M 1 5 ≤ 5 := hc.2.1
  have g := R_readsOn d m p l 0 (M 1 5) hp (G_law h hc) hl b5.2 (Or.inl rfl)
  rw [if_pos rfl] at g
  have c : rdL (pgL m p) (pg m p) l = rdL (M 4) f l := rdL_cong (G_L h (by omega) (by omega)) (G_L h (by omega) (by omega)) (G_L h (by omega) (by omega)) h.1
  rw [c] at g
  exact g
theorem G_set {m M : mMem} {p : Int} {f s : Int → Int} {t v : Int} (h : PgC m M p f s) (hc : Cht M 1) (ht : 0 ≤ t ∧ t < 36) : PgC (mupd m 54 (p + t) v) M p (fup f t v) s := by
  obtain ⟨h1, h2, h3, h4⟩ := h
  have b5 : 0 ≤ M 1 5 ∧ M 1 5 ≤ 5 := hc.2.1
  unfold PgC
  rw [mupd_at]
  refine ⟨fun i q0 q1 => ?_, fun x q0 q1 => ?_, ?_, fun l x q0 q1 q2 q3 => ?_⟩
  · have g := h1 i q0 q1
    unfold fup
    split <;> split <;> omega
  · rw [fup_ne _ _ (by omega)]
    exact h2 x q0 q1
  · rw [fup_ne _ _ (by omega)]
    exact h3
  · rw [fup_ne _ _ (by omega)]
    exact h4 l x q0 q1 q2 q3
theorem G_st {m M : mMem} {p : Int} {f s : Int → Int} {t v : Int} (h : PgC m M p f s) (hc : Cht M 1) (ht : 0 ≤ t ∧ t < 36) (hv : 1 ≤ v ∧ v ≤ 3) (hs : 0 < s v) : PgC (stM m p t v) M p (fup f t v) (fup s v (s v - 1)) := by
  obtain ⟨h1, h2, h3, h4⟩ := h
  have b5 : 0 ≤ M 1 5 ∧ M 1 5 ≤ 5 := hc.2.1
  have e : stM m p t v 54 = fup (fup (m 54) (p + t) v) (p + 35 + v) (m 54 (p + 35 + v) - 1) := by
    unfold stM
    rw [mupd_at, mupd_at]
  have gv := h2 v hv.1 hv.2
  unfold PgC
  rw [e]
  refine ⟨fun i q0 q1 => ?_, fun x q0 q1 => ?_, ?_, fun l x q0 q1 q2 q3 => ?_⟩
  · have g := h1 i q0 q1
    rw [fup_ne _ _ (by omega)]
    unfold fup
    split <;> split <;> omega
  · have g := h2 x q0 q1
    by_cases q : x = v
    · rw [q, fup_at, fup_at]
      omega
    · rw [fup_ne _ _ (by omega), fup_ne _ _ (by omega), fup_ne _ _ q]
      exact g
  · rw [fup_ne _ _ (by omega), fup_ne _ _ (by omega)]
    exact h3
  · rw [fup_ne _ _ (by omega), fup_ne _ _ (by omega)]
    exact h4 l x q0 q1 q2 q3
theorem G_stitch (d : Nat) {m M : mMem} {p : Int} {f s : Int → Int} {t c : Int} (h : PgC m M p f s) (hp : 0 ≤ p ∧ p ≤ 425) (ht : 0 ≤ t ∧ t < 36) (hc : 1 ≤ c ∧ c ≤ 3) : mR3 (d + 1) 148 [vr 53, vi p, vi t, vi c] (S0, m) (some (vi (b2 (f t = 0 ∧ 0 < s c))), (S0, if f t = 0 ∧ 0 < s c then stM m p t c else m)) := by
  have g2 := h.2.1 c hc.1 hc.2
  have g1 := h.1 t ht.1 ht.2
  have g := R_stitchesOn d m p t c hp ht hc (by omega)
  rw [g1, g2.1] at g
  exact g
theorem stM_ne (m : mMem) (p t c : Int) {k : Nat} (h : k ≠ 54) : stM m p t c k = m k := by
  unfold stM
  rw [mupd_ne _ _ _ h, mupd_ne _ _ _ h]
theorem stM_lo (m : mMem) {p t c i : Int} (h : i < p) (ht : 0 ≤ t) (hc : 0 ≤ c) : stM m p t c 54 i = m 54 i := by
  unfold stM
  rw [mupd_at, fup_ne _ _ (by omega), mupd_at, fup_ne _ _ (by omega)]
theorem FrM_54 {m' m M : mMem} (h : FrM m M) (e : ∀ k : Nat, k ≠ 54 → m' k = m k) (f : ∀ i : Int, 0 ≤ i → i < 255 → m' 54 i = m 54 i) : FrM m' M :=
  FrM_trans ⟨fun k _ a _ _ _ => e k a, by rw [e 53 (by decide)], by rw [e 53 (by decide)], by rw [e 53 (by decide)], by rw [e 53 (by decide)], f⟩ h
theorem FrM_st {m M : mMem} (h : FrM m M) {p t c : Int} (hp : 255 ≤ p) (ht : 0 ≤ t) (hc : 0 ≤ c) : FrM (stM m p t c) M := FrM_54 h (fun k q => stM_ne _ _ _ _ q) (fun i q0 q1 => stM_lo m (by omega) ht hc)
theorem FrM_set {m M : mMem} (h : FrM m M) {i v : Int} (hi : 255 ≤ i) : FrM (mupd m 54 i v) M := FrM_54 h (fun k q => mupd_ne _ _ _ q) (fun j q0 q1 => by rw [mupd_at, fup_ne _ _ (by omega)])
theorem FrM_cpy {m M : mMem} (h : FrM m M) {s p : Int} (hp : 255 ≤ p) : FrM (mcpy m 54 s 54 p 85) M := FrM_54 h (fun k q => mcpy_ne _ _ _ _ _ q) (fun j q0 q1 => by
  unfold mcpy
  rw [if_neg (by omega)])
theorem FrM_53 {m M : mMem} (h : FrM m M) {i v : Int} (h5 : i ≠ 5) (h6 : i ≠ 6) (h22 : i ≠ 22) (h30 : i ≠ 30) : FrM (mupd m 53 i v) M := by
  refine FrM_trans ⟨fun k a _ _ _ _ => mupd_ne _ _ _ a, ?_, ?_, ?_, ?_, fun j _ _ => by rw [mupd_ne _ _ _ (by decide)]⟩ h
  · rw [mupd_at, fup_ne _ _ (fun q => h5 q.symm)]
  · rw [mupd_at, fup_ne _ _ (fun q => h6 q.symm)]
  · rw [mupd_at, fup_ne _ _ (fun q => h22 q.symm)]
  · rw [mupd_at, fup_ne _ _ (fun q => h30 q.symm)]
