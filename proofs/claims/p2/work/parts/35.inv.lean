/-! PURE PROOFS 13: what holds between two calls -/
def ImI (M : mMem) (c b : Nat) (x p : Int) : Prop := (M c 1 = 0 ∨ M c 1 = 1) ∧ M 63 x = M c 1 ∧ (M c 1 = 1 → Cht M b ∧ Pg M b p)
def TaI (M : mMem) : Prop := (0 ≤ M 35 1 ∧ M 35 1 ≤ 160) ∧ M 53 5 = M 35 1 ∧ M 35 2 = M 53 6 ∧ ∀ i : Int, 0 ≤ i → i < M 35 1 → M 56 i = M 36 i ∧ 0 ≤ M 36 i ∧ M 36 i ≤ 127
def SeI (M : mMem) : Prop := (0 ≤ M 0 13 ∧ M 0 13 ≤ 6) ∧ M 53 22 = M 0 13 ∧ ∀ i : Int, 0 ≤ i → i < M 0 13 → M 60 (2 * i) = M 40 i ∧ M 60 (2 * i + 1) = M 41 i ∧ (0 ≤ M 40 i ∧ M 40 i ≤ 4) ∧ 0 ≤ M 41 i ∧ M 41 i ≤ 60
def ShI (M : mMem) (k : Nat) : Prop := (M (45 + 2 * k) 2 = -1 ∧ M 64 k = -4) ∨ ((0 ≤ M (45 + 2 * k) 2 ∧ M (45 + 2 * k) 2 ≤ 40) ∧ (0 ≤ M (45 + 2 * k) 1 ∧ M (45 + 2 * k) 1 ≤ 2) ∧ M 64 k = M (45 + 2 * k) 1 ∧ M 65 k = M (45 + 2 * k) 2 ∧ ∀ i : Int, 0 ≤ i → i < 40 → M 66 (40 * k + i) = M (46 + 2 * k) i)
def Inv (M : mMem) : Prop := Cht M 1 ∧ Pg M 1 0 ∧ ImI M 17 18 0 85 ∧ ImI M 26 27 1 170 ∧ TaI M ∧ SeI M ∧ (∀ k : Nat, k < 4 → ShI M k) ∧ M 0 16 = M 53 30 ∧ M 57 = M0 57 ∧ M 58 = M0 58
/-- rows that a call which only asks leaves as they are -/
def kept (k : Nat) : Prop := (1 ≤ k ∧ k ≤ 8) ∨ (17 ≤ k ∧ k ≤ 34) ∨ k = 36 ∨ k = 40 ∨ k = 41 ∨ (45 ≤ k ∧ k ≤ 52) ∨ (56 ≤ k ∧ k ≤ 58) ∨ k = 60 ∨ (63 ≤ k ∧ k ≤ 66)
def Fr (M N : mMem) : Prop := (∀ k : Nat, kept k → M k = N k) ∧ M 0 13 = N 0 13 ∧ M 0 16 = N 0 16 ∧ M 35 1 = N 35 1 ∧ M 35 2 = N 35 2 ∧ M 53 5 = N 53 5 ∧ M 53 6 = N 53 6 ∧ M 53 22 = N 53 22 ∧ M 53 30 = N 53 30 ∧ ∀ i : Int, 0 ≤ i → i < 255 → M 54 i = N 54 i
theorem Pg_fr {M N : mMem} {b : Nat} {p : Int} (h : Pg N b p) (h6 : N b 6 ≤ 8) (h5 : N b 5 ≤ 5) (e : ∀ k, b ≤ k → k < b + 8 → M k = N k) (e4 : ∀ i, p ≤ i → i < p + 85 → M 54 i = N 54 i) : Pg M b p := by
  obtain ⟨g1, g2, g3, g4, g5, g6⟩ := h
  unfold Pg
  rw [e (b + 1) (by omega) (by omega), e (b + 2) (by omega) (by omega), e (b + 3) (by omega) (by omega), e (b + 4) (by omega) (by omega), e (b + 5) (by omega) (by omega), e b (by omega) (by omega), e4 (p + 39) (by omega) (by omega), e4 (p + 60) (by omega) (by omega)]
  refine ⟨fun i h0 h1 => ?_, fun c h0 h1 => ?_, g3, fun l x h0 h1 h2 h3 => ?_, g5, fun i h0 h1 => ?_⟩
  · rw [e4 _ (by omega) (by omega)]
    exact g1 i h0 h1
  · rw [e4 _ (by omega) (by omega)]
    exact g2 c h0 h1
  · rw [e4 _ (by omega) (by omega)]
    exact g4 l x h0 h1 h2 h3
  · rw [e4 (p + 61 + 3 * i) (by omega) (by omega), e4 (p + 62 + 3 * i) (by omega) (by omega), e4 (p + 63 + 3 * i) (by omega) (by omega)]
    exact g6 i h0 h1
theorem Fr_refl (M : mMem) : Fr M M := ⟨fun _ _ => rfl, rfl, rfl, rfl, rfl, rfl, rfl, rfl, rfl, fun _ _ _ => rfl⟩
theorem Fr_trans {A B C : mMem} (h : Fr A B) (g : Fr B C) : Fr A C := by
  obtain ⟨h0, h1, h2, h3, h4, h5, h6, h7, h8, h9⟩ := h
  obtain ⟨g0, g1, g2, g3, g4, g5, g6, g7, g8, g9⟩ := g
  exact ⟨fun k q => (h0 k q).trans (g0 k q), h1.trans g1, h2.trans g2, h3.trans g3, h4.trans g4, h5.trans g5, h6.trans g6, h7.trans g7, h8.trans g8, fun i q r => (h9 i q r).trans (g9 i q r)⟩
theorem ImI_fr {M N : mMem} {c b : Nat} {x p : Int} (h : ImI N c b x p) (hc : M c = N c) (h3 : M 63 = N 63) (e : ∀ k, b ≤ k → k < b + 8 → M k = N k) (e4 : ∀ i, p ≤ i → i < p + 85 → M 54 i = N 54 i) : ImI M c b x p := by
  obtain ⟨g1, g2, g3⟩ := h
  unfold ImI
  rw [hc, h3]
  refine ⟨g1, g2, fun q => ?_⟩
  have g := g3 q
  have l := g.1.2.1
  have m := g.1.2.2.2.1
  exact ⟨Cht_eq g.1 e, Pg_fr g.2 m.2 l.2 e e4⟩
theorem Inv_fr {M N : mMem} (h : Inv N) (f : Fr M N) : Inv M := by
  obtain ⟨i1, i2, i3, i4, i5, i6, i7, i8, i9, i10⟩ := h
  obtain ⟨f0, f1, f2, f3, f4, f5, f6, f7, f8, f9⟩ := f
  have r : ∀ k : Nat, kept k → M k = N k := f0
  have l := i1.2.1
  have m := i1.2.2.2.1
  refine ⟨Cht_eq i1 (fun k h0 h1 => r k (by unfold kept; omega)), Pg_fr i2 m.2 l.2 (fun k h0 h1 => r k (by unfold kept; omega)) (fun i h0 h1 => f9 i (by omega) (by omega)), ?_, ?_, ?_, ?_, ?_, ?_, ?_, ?_⟩
  · exact ImI_fr i3 (r 17 (by unfold kept; omega)) (r 63 (by unfold kept; omega)) (fun k h0 h1 => r k (by unfold kept; omega)) (fun i h0 h1 => f9 i (by omega) (by omega))
  · exact ImI_fr i4 (r 26 (by unfold kept; omega)) (r 63 (by unfold kept; omega)) (fun k h0 h1 => r k (by unfold kept; omega)) (fun i h0 h1 => f9 i (by omega) (by omega))
  · unfold TaI
    rw [f3, f4, f5, f6, r 56 (by unfold kept; omega), r 36 (by unfold kept; omega)]
    exact i5
  · unfold SeI
    rw [f1, f7, r 60 (by unfold kept; omega), r 40 (by unfold kept; omega), r 41 (by unfold kept; omega)]
    exact i6
  · intro k hk
    unfold ShI
    rw [r (45 + 2 * k) (by unfold kept; omega), r (46 + 2 * k) (by unfold kept; omega), r 64 (by unfold kept; omega), r 65 (by unfold kept; omega), r 66 (by unfold kept; omega)]
    exact i7 k hk
  · rw [f2, f8]
    exact i8
  · rw [r 57 (by unfold kept; omega)]
    exact i9
  · rw [r 58 (by unfold kept; omega)]
    exact i10
