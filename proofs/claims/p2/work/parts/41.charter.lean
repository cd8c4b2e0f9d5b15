/-! PURE PROOFS 19: calls that change the charter -/
theorem Inv_c1 {M N : mMem} (h : Inv N) (c : Cht M 1) (p : Pg M 1 0) (r : ∀ k : Nat, (k = 0 ∨ 17 ≤ k) → k ≠ 54 → M k = N k) (f : ∀ i : Int, 85 ≤ i → i < 255 → M 54 i = N 54 i) : Inv M := by
  obtain ⟨_, _, i3, i4, i5, i6, i7, i8, i9, i10⟩ := h
  refine ⟨c, p, ?_, ?_, ?_, ?_, ?_, ?_, ?_, ?_⟩
  · exact ImI_fr i3 (r 17 (by omega) (by omega)) (r 63 (by omega) (by omega)) (fun k h0 h1 => r k (by omega) (by omega)) (fun i h0 h1 => f i (by omega) (by omega))
  · exact ImI_fr i4 (r 26 (by omega) (by omega)) (r 63 (by omega) (by omega)) (fun k h0 h1 => r k (by omega) (by omega)) (fun i h0 h1 => f i (by omega) (by omega))
  · exact TaI_fr i5 (by rw [r 35 (by omega) (by omega)]) (by rw [r 35 (by omega) (by omega)]) (by rw [r 53 (by omega) (by omega)]) (by rw [r 53 (by omega) (by omega)]) (r 56 (by omega) (by omega)) (r 36 (by omega) (by omega))
  · exact SeI_fr i6 (by rw [r 0 (by omega) (by omega)]) (by rw [r 53 (by omega) (by omega)]) (r 60 (by omega) (by omega)) (r 40 (by omega) (by omega)) (r 41 (by omega) (by omega))
  · exact ShI_fr i7 (fun k hk => r k (by omega) (by omega))
  · rw [r 0 (by omega) (by omega), r 53 (by omega) (by omega)]
    exact i8
  · rw [r 57 (by omega) (by omega)]
    exact i9
  · rw [r 58 (by omega) (by omega)]
    exact i10
theorem Cht_mk {M N : mMem} {b : Nat} (h : Cht N b) (e1 : M (b + 1) = N (b + 1)) (e6 : M (b + 6) = N (b + 6)) (e7 : M (b + 7) = N (b + 7)) (l0 : 0 ≤ M b 5 ∧ M b 5 ≤ 5) (l1 : lawOK (M (b + 3)) (M b 5)) (p0 : 0 ≤ M b 6 ∧ M b 6 ≤ 8) (p1 : planOK (M (b + 4)) (M (b + 5)) (M b 6)) (sp : spOK (M (b + 2))) : Cht M b :=
  ⟨Tal_of h.1 (fun i _ _ => by rw [e1]) (fun i _ _ => by rw [e6]) (fun i _ _ => by rw [e7]), l0, l1, p0, p1, sp⟩
def Pg0 (M : mMem) : Prop := (∀ i : Int, 0 ≤ i → i < 36 → M 54 i = M 2 i) ∧ (∀ c : Int, 1 ≤ c → c ≤ 3 → M 54 (35 + c) + 20 = M 3 c) ∧ M 54 39 = M 1 5 ∧ (∀ l x : Int, 0 ≤ l → l < M 1 5 → 0 ≤ x → x < 4 → M 54 (40 + 5 * x + l) = M 4 (4 * l + x)) ∧ M 54 60 = M 1 6 ∧ (∀ i : Int, 0 ≤ i → i < M 1 6 → 6 * M 54 (61 + 3 * i) + M 54 (62 + 3 * i) = M 5 i ∧ (0 ≤ M 54 (62 + 3 * i) ∧ M 54 (62 + 3 * i) < 6) ∧ M 54 (63 + 3 * i) = M 6 i)
theorem Pg0_of {M : mMem} (h : Pg M 1 0) : Pg0 M := by
  obtain ⟨g1, g2, g3, g4, g5, g6⟩ := h
  refine ⟨fun i a b => ?_, fun c a b => ?_, g3, fun l x a b c d => ?_, g5, fun i a b => ?_⟩
  · have g := g1 i a b
    rw [Int.zero_add] at g
    exact g
  · have g := g2 c a b
    rw [Int.zero_add] at g
    exact g
  · have g := g4 l x a b c d
    rw [Int.zero_add] at g
    exact g
  · have g := g6 i a b
    rw [Int.zero_add, Int.zero_add, Int.zero_add] at g
    exact g
theorem Pg_of0 {M : mMem} (h : Pg0 M) : Pg M 1 0 := by
  obtain ⟨g1, g2, g3, g4, g5, g6⟩ := h
  refine ⟨fun i a b => ?_, fun c a b => ?_, g3, fun l x a b c d => ?_, g5, fun i a b => ?_⟩
  · rw [Int.zero_add]
    exact g1 i a b
  · rw [Int.zero_add]
    exact g2 c a b
  · rw [Int.zero_add]
    exact g4 l x a b c d
  · rw [Int.zero_add, Int.zero_add, Int.zero_add]
    exact g6 i a b
theorem P_cut {M : mMem} (h : Inv M) (n : Int) : PairI 57 146 [vi n] M := by
  have hc := h.1
  have hp := Pg0_of h.2.1
  have p0 : 0 ≤ M 1 6 ∧ M 1 6 ≤ 8 := hc.2.2.2.1
  have p5 : M 54 60 = M 1 6 := hp.2.2.2.2.1
  by_cases c : 0 ≤ n ∧ n ≤ M 1 6
  · have a1 : mR3 10 57 [vr 0, vi n] (S0, M) (some (vi (M 1 6)), (S0, mupd M 1 6 n)) :=
      ⟨⟨by decide, Nat.le_of_ble_eq_true rfl⟩, fun K hK => q_L_cut_0 hK n M (br_f (by omega) (br_t c.2 (mret_i rfl rfl)))⟩
    have e54 : mupd M 1 6 n 54 = M 54 := mupd_ne _ _ _ (by decide)
    have a2 : mR3 10 146 [vr 53, vi n] (S0, mupd M 1 6 n) (some (vi (M 1 6)), (S0, mupd (mupd M 1 6 n) 54 60 n)) := by
      refine ⟨⟨by decide, Nat.le_of_ble_eq_true rfl⟩, fun K hK => q_M_cut_0 hK n _ ⟨_, _, R_in 8 _ _ _ _, _, _, R_puts 8 _ _ 60 n 0 (fun _ => ⟨by decide, by decide⟩), ?_⟩⟩
      have z : b2 ((0 : Nat) ≤ n ∧ n ≤ mupd M 1 6 n 54 60) ≠ 0 := b2_n0.mpr (by rw [e54, p5]; exact c)
      rw [if_pos z, if_pos z, e54, p5, Int.add_zero, Int.sub_zero, w32_s (by omega) (by omega), w32_s (by omega) (by omega)]
      exact mret_i rfl rfl
    refine ⟨_, _, _, a1, a2, ?_⟩
    have e : ∀ k : Nat, k ≠ 1 → k ≠ 54 → mupd (mupd M 1 6 n) 54 60 n k = M k := fun k h1 h2 => by rw [mupd_ne _ _ _ h2, mupd_ne _ _ _ h1]
    have f1 : mupd (mupd M 1 6 n) 54 60 n 1 = fup (M 1) 6 n := by rw [mupd_ne _ _ _ (by decide), mupd_at]
    have f54 : mupd (mupd M 1 6 n) 54 60 n 54 = fup (M 54) 60 n := by rw [mupd_at, e54]
    generalize mupd (mupd M 1 6 n) 54 60 n = m at e f1 f54
    have f5 : m 1 5 = M 1 5 := by rw [f1, fup_ne _ _ (by decide)]
    have f6 : m 1 6 = n := by rw [f1, fup_at]
    refine Inv_c1 h (Cht_mk hc (e 2 (by decide) (by decide)) (e 7 (by decide) (by decide)) (e 8 (by decide) (by decide)) ?_ ?_ ?_ ?_ ?_) (Pg_of0 ?_) (fun k h1 h2 => e k (by omega) h2) (fun i h0 h1 => by rw [f54, fup_ne _ _ (by omega)])
    · rw [f5]
      exact hc.2.1
    · rw [f5, e (1 + 3) (by decide) (by decide)]
      exact hc.2.2.1
    · rw [f6]
      omega
    · rw [f6, e (1 + 4) (by decide) (by decide), e (1 + 5) (by decide) (by decide)]
      exact fun i h0 h1 => hc.2.2.2.2.1 i h0 (by omega)
    · rw [e (1 + 2) (by decide) (by decide)]
      exact hc.2.2.2.2.2
    · unfold Pg0
      rw [f54, f5, f6, e 2 (by decide) (by decide), e 3 (by decide) (by decide), e 4 (by decide) (by decide), e 5 (by decide) (by decide), e 6 (by decide) (by decide), fup_at]
      refine ⟨fun i h0 h1 => ?_, fun i h0 h1 => ?_, ?_, fun l x h0 h1 h2 h3 => ?_, rfl, fun i h0 h1 => ?_⟩
      · rw [fup_ne _ _ (by omega)]
        exact hp.1 i h0 h1
      · rw [fup_ne _ _ (by omega)]
        exact hp.2.1 i h0 h1
      · rw [fup_ne _ _ (by omega)]
        exact hp.2.2.1
      · have b5 : 0 ≤ M 1 5 ∧ M 1 5 ≤ 5 := hc.2.1
        rw [fup_ne _ _ (by omega)]
        exact hp.2.2.2.1 l x h0 h1 h2 h3
      · rw [fup_ne _ _ (by omega), fup_ne _ _ (by omega), fup_ne _ _ (by omega)]
        exact hp.2.2.2.2.2 i h0 (by omega)
  · refine ⟨-1, M, M, ⟨⟨by decide, Nat.le_of_ble_eq_true rfl⟩, fun K hK => q_L_cut_0 hK n M ⟨fun _ => mret_i rfl rfl, fun q => br_f (by omega) (mret_i rfl rfl)⟩⟩, ⟨⟨by decide, Nat.le_of_ble_eq_true rfl⟩, fun K hK => q_M_cut_0 hK n M ⟨_, _, R_in 8 _ _ _ _, _, _, R_puts 8 _ _ 60 n 0 (fun _ => ⟨by decide, by decide⟩), ?_⟩⟩, h⟩
    have z : ¬ b2 ((0 : Nat) ≤ n ∧ n ≤ M 54 60) ≠ 0 := fun q => c (by have q := b2_n0.mp q; rw [p5] at q; exact q)
    rw [if_neg z, if_neg z]
    exact mret_i rfl rfl
