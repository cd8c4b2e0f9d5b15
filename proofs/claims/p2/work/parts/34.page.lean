/-! PURE PROOFS 12: a charter and a page -/
theorem rdL_cong {L L' f f' : Int → Int} {l : Int} (h0 : L (4 * l) = L' (4 * l)) (h1 : L (4 * l + 1) = L' (4 * l + 1)) (h2 : L (4 * l + 2) = L' (4 * l + 2)) (hf : ∀ i, 0 ≤ i → i < 36 → f i = f' i) : rdL L f l = rdL L' f' l := by
  unfold rdL
  rw [h0, h1, h2, cB_cong hf, cB_cong hf, cA_cong hf]
theorem rdB_cong {L L' f f' : Int → Int} {l : Int} (h0 : L (4 * l) = L' (4 * l)) (h1 : L (4 * l + 1) = L' (4 * l + 1)) (h2 : L (4 * l + 2) = L' (4 * l + 2)) (hf : ∀ i, 0 ≤ i → i < 36 → f i = f' i) : rdB L f l = rdB L' f' l := by
  unfold rdB
  rw [h0, h1, h2, cB_cong hf, cB_cong hf, cA_cong hf]
theorem cO_cong {f f' : Int → Int} {s : Int} (h : ∀ i, 0 ≤ i → i < 36 → f i = f' i) : cO f s 36 = cO f' s 36 := by
  unfold cO
  refine sm_cong (fun k hk => ?_)
  rw [h k (by omega) (by omega)]
/-- the charter at b says what the page at p says -/
def Pg (M : mMem) (b : Nat) (p : Int) : Prop := (∀ i : Int, 0 ≤ i → i < 36 → M 54 (p + i) = M (b + 1) i) ∧ (∀ c : Int, 1 ≤ c → c ≤ 3 → M 54 (p + 35 + c) + 20 = M (b + 2) c) ∧ M 54 (p + 39) = M b 5 ∧ (∀ l x : Int, 0 ≤ l → l < M b 5 → 0 ≤ x → x < 4 → M 54 (p + 40 + 5 * x + l) = M (b + 3) (4 * l + x)) ∧ M 54 (p + 60) = M b 6 ∧ (∀ i : Int, 0 ≤ i → i < M b 6 → 6 * M 54 (p + 61 + 3 * i) + M 54 (p + 62 + 3 * i) = M (b + 4) i ∧ (0 ≤ M 54 (p + 62 + 3 * i) ∧ M 54 (p + 62 + 3 * i) < 6) ∧ M 54 (p + 63 + 3 * i) = M (b + 5) i)
theorem Pg_L {M : mMem} {b : Nat} {p : Int} (h : Pg M b p) {l : Int} (h0 : 0 ≤ l) (h1 : l < M b 5) : pgL M p (4 * l) = M (b + 3) (4 * l) ∧ pgL M p (4 * l + 1) = M (b + 3) (4 * l + 1) ∧ pgL M p (4 * l + 2) = M (b + 3) (4 * l + 2) ∧ pgL M p (4 * l + 3) = M (b + 3) (4 * l + 3) := by
  have g := h.2.2.2.1
  have g0 := g l 0 h0 h1 (by omega) (by omega)
  rw [Int.add_zero, Int.mul_zero, Int.add_zero] at g0
  refine ⟨?_, ?_, ?_, ?_⟩
  · rw [pgL_0]
    exact g0
  · rw [pgL_at M p l 1 (by omega) (by omega)]
    exact g l 1 h0 h1 (by omega) (by omega)
  · rw [pgL_at M p l 2 (by omega) (by omega)]
    exact g l 2 h0 h1 (by omega) (by omega)
  · rw [pgL_at M p l 3 (by omega) (by omega)]
    exact g l 3 h0 h1 (by omega) (by omega)
theorem Pg_law {M : mMem} {b : Nat} {p : Int} (h : Pg M b p) (hc : Cht M b) : lawOK (pgL M p) (M b 5) := by
  intro l h0 h1
  obtain ⟨e0, e1, e2, e3⟩ := Pg_L h h0 h1
  rw [e0, e1, e2, e3]
  exact hc.2.2.1 l h0 h1
theorem Pg_rd {M : mMem} {b : Nat} {p : Int} (h : Pg M b p) {l : Int} (h0 : 0 ≤ l) (h1 : l < M b 5) : rdL (pgL M p) (pg M p) l = rdL (M (b + 3)) (M (b + 1)) l := by
  obtain ⟨e0, e1, e2, _⟩ := Pg_L h h0 h1
  exact rdL_cong e0 e1 e2 h.1
theorem Pg_rdB {M : mMem} {b : Nat} {p : Int} (h : Pg M b p) {l : Int} (h0 : 0 ≤ l) (h1 : l < M b 5) : rdB (pgL M p) (pg M p) l = rdB (M (b + 3)) (M (b + 1)) l := by
  obtain ⟨e0, e1, e2, _⟩ := Pg_L h h0 h1
  exact rdB_cong e0 e1 e2 h.1
theorem Pg_wo {M : mMem} {b : Nat} {p : Int} (h : Pg M b p) {n : Nat} (hn : M b 5 = n) : woS (pgL M p) (pg M p) n = woS (M (b + 3)) (M (b + 1)) n := by
  unfold woS
  refine sm_cong (fun k hk => ?_)
  rw [Pg_rd h (by omega) (by omega), (Pg_L h (l := k) (by omega) (by omega)).2.2.2]
theorem Pg_hb {M : mMem} {b : Nat} {p : Int} (h : Pg M b p) {n : Nat} (hn : M b 5 = n) : hbF (fun l => rdL (pgL M p) (pg M p) l) n = hbF (fun l => rdL (M (b + 3)) (M (b + 1)) l) n :=
  hbF_cong (fun k hk => Pg_rd h (by omega) (by omega))
/-- a stitch on a page -/
def stM (M : mMem) (p k c : Int) : mMem := mupd (mupd M 54 (p + k) c) 54 (p + 35 + c) (M 54 (p + 35 + c) - 1)
theorem R_stitchesOn (d : Nat) (M : mMem) (p k c : Int) (hp : 0 ≤ p ∧ p ≤ 425) (hk : 0 ≤ k ∧ k < 36) (hc : 1 ≤ c ∧ c ≤ 3) (hs : -20 ≤ M 54 (p + 35 + c) ∧ M 54 (p + 35 + c) ≤ 79) : mR3 (d + 1) 148 [vr 53, vi p, vi k, vi c] (S0, M) (some (vi (b2 ((M 54 (p + k) = 0 ∧ 0 < M 54 (p + 35 + c) + 20)))), (S0, if (M 54 (p + k) = 0 ∧ 0 < M 54 (p + 35 + c) + 20) then stM M p k c else M)) := by
  refine ⟨⟨by decide, Nat.le_of_ble_eq_true rfl⟩, fun K hK => q_M_stitchesOn_0 hK p k c M ?_⟩
  have e1 : w32 (p + k) = p + k := w32_s (by omega) (by omega)
  have e2 : w32 (w32 (w32 (p + 36) + c) - 1) = p + 35 + c := by
    rw [w32_s (z := p + 36) (by omega) (by omega), w32_s (z := p + 36 + c) (by omega) (by omega), w32_s (by omega) (by omega)]
    omega
  have s0 : ¬ (M 54 (p + k) = 0 ∧ 0 < M 54 (p + 35 + c) + 20) → K 35 [(0, vr 53), (1, vi p), (2, vi k), (3, vi c)] [vi 0] (S0, M) := by
    intro h
    refine q_M_stitchesOn_35 hK p k c 0 M (br_t rfl (mBo_i (Or.inl rfl) (mret_i (b2_f h).symm ?_)))
    rw [if_neg h]
  rw [e1, e2, w32_s (z := M 54 (p + 35 + c) + 20) (by omega) (by omega)]
  refine mIn_i (by omega) (by omega) ⟨fun q => s0 (fun z => q z.1), fun q => mIn_i (by omega) (by omega) ⟨fun q2 => s0 (fun z => absurd z.2 (by omega)), fun q2 => ?_⟩⟩
  have h : (M 54 (p + k) = 0 ∧ 0 < M 54 (p + 35 + c) + 20) := ⟨Decidable.not_not.mp q, by omega⟩
  refine q_M_stitchesOn_35 hK p k c 1 M (br_f (by decide) ?_)
  rw [e1, e2]
  refine mIn_i (by omega) (by omega) (mIn_i (by omega) (by omega) (mIn_i (by omega) (by omega) (mBo_i (Or.inr rfl) (mret_i (b2_t h).symm ?_))))
  rw [if_pos h]
  unfold stM
  have e3 : mupd M 54 (p + k) c 54 (p + 35 + c) = M 54 (p + 35 + c) := by
    unfold mupd
    rw [if_neg (by omega)]
  rw [e3, w32_s (by omega) (by omega)]
theorem R_puts (d : Nat) (M : mMem) (g t v x : Int) (ht : g ≠ 0 → 0 ≤ t ∧ t < 510) : mR3 (d + 1) 142 [vr 53, vi g, vi t, vi v, vi x] (S0, M) (some (vi (if g ≠ 0 then w32 (M 54 t + x) else -1)), (S0, if g ≠ 0 then mupd M 54 t (w32 (v - x)) else M)) := by
  refine ⟨⟨by decide, Nat.le_of_ble_eq_true rfl⟩, fun K hK => q_M_puts_0 hK g t v x M ⟨fun q => ?_, fun q => ?_⟩⟩
  · have h := ht q
    refine mIn_i (by omega) (by omega) (mIn_i (by omega) (by omega) (mret_i ?_ ?_))
    · rw [if_pos q]
    · rw [if_pos q]
  · refine mret_i ?_ ?_
    · rw [if_neg q]
    · rw [if_neg q]
