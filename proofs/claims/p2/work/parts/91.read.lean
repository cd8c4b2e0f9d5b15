/-! PURE PROOFS 66: read -/
theorem Inv_c2 {M N : mMem} (h : Inv N) (c : Cht M 1) (p : Pg M 1 0) (r : ∀ k : Nat, ((17 ≤ k ∧ k ≤ 36) ∨ k = 40 ∨ k = 41 ∨ 45 ≤ k) → k ≠ 53 → k ≠ 54 → M k = N k) (f : ∀ i : Int, 85 ≤ i → i < 255 → M 54 i = N 54 i) (e13 : M 0 13 = N 0 13) (e5 : M 53 5 = N 53 5) (e6 : M 53 6 = N 53 6) (e22 : M 53 22 = N 53 22) (t : M 0 16 = M 53 30) : Inv M := by
  obtain ⟨_, _, i3, i4, i5, i6, i7, i8, i9, i10⟩ := h
  refine ⟨c, p, ?_, ?_, ?_, ?_, ?_, t, ?_, ?_⟩
  · exact ImI_fr i3 (r 17 (by omega) (by omega) (by omega)) (r 63 (by omega) (by omega) (by omega)) (fun k h0 h1 => r k (by omega) (by omega) (by omega)) (fun i h0 h1 => f i (by omega) (by omega))
  · exact ImI_fr i4 (r 26 (by omega) (by omega) (by omega)) (r 63 (by omega) (by omega) (by omega)) (fun k h0 h1 => r k (by omega) (by omega) (by omega)) (fun i h0 h1 => f i (by omega) (by omega))
  · exact TaI_fr i5 (by rw [r 35 (by omega) (by omega) (by omega)]) (by rw [r 35 (by omega) (by omega) (by omega)]) e5 e6 (r 56 (by omega) (by omega) (by omega)) (r 36 (by omega) (by omega) (by omega))
  · exact SeI_fr i6 e13 e22 (r 60 (by omega) (by omega) (by omega)) (r 40 (by omega) (by omega) (by omega)) (r 41 (by omega) (by omega) (by omega))
  · exact ShI_fr i7 (fun k hk => r k (by omega) (by omega) (by omega))
  · rw [r 57 (by omega) (by omega) (by omega)]
    exact i9
  · rw [r 58 (by omega) (by omega) (by omega)]
    exact i10
theorem P_read {M : mMem} (h : Inv M) (k a f n : Int) (hf : inR f) : PairI 84 187 [vi k, vi a, vi f, vi n] M := by
  have hc := h.1
  have hp := Pg0_of h.2.1
  by_cases c : (0 ≤ k ∧ k < 4) ∧ (0 ≤ a ∧ a ≤ 2) ∧ 0 ≤ n ∧ n ≤ 13
  · obtain ⟨kk, hk⟩ : ∃ kk : Nat, k = kk := ⟨k.toNat, by omega⟩
    obtain ⟨nn, hn⟩ : ∃ nn : Nat, n = nn := ⟨n.toNat, by omega⟩
    have sh := h.2.2.2.2.2.2.1 kk (by omega)
    obtain ⟨v, m1, ⟨e, re⟩, r1⟩ := read_L hc sh hk (by omega) c.2.1 hn (by omega) hf
    have fr : ∀ y : Nat, 45 ≤ y → m1 y = M y := by
      intro y hy
      rcases re with ⟨_, q⟩ | ⟨_, m2, _, q, w⟩
      · exact q.1 y (by omega)
      · rw [w, mupd_ne _ _ _ (by omega), cpy_ne m2 (by omega), q.1 y (by omega)]
    obtain ⟨v', m2, ⟨e', re'⟩, r2⟩ := read_M (m1 := m1) h.2.1 hc sh hk (by omega) c.2.1 hn (by omega) hf (fr 54 (by decide)) (fr 64 (by decide)) (fr 65 (by decide)) (fr 66 (by decide))
    rw [e] at r1
    rw [e'] at r2
    refine ⟨_, m1, m2, r1, r2, ?_⟩
    generalize rdO M (M (46 + 2 * kk)) (45 + 2 * kk) a f nn 0 = o at re re'
    rcases re with ⟨o1, q1⟩ | ⟨o1, mm, t, q1, w⟩
    · rcases re' with ⟨_, q2⟩ | ⟨o2, _⟩
      · exact Inv_fr h (Fr_trans (FrM_fr q2) (FrL_fr q1))
      · exact absurd o1 (by omega)
    · rcases re' with ⟨o2, _⟩ | ⟨_, pc, t30, u1, u2, u3⟩
      · exact absurd o1 (by omega)
      · generalize rdG M (M (46 + 2 * kk)) f o.2.2.1 = g at t pc
        have cp : cpP 1 9 := by
          unfold cpP
          omega
        have cy : ∀ y : Nat, y ≠ 0 → m1 y = cpyM mm 1 9 y := fun y hy => by rw [w, mupd_ne _ _ _ hy]
        have b : ∀ y : Nat, y ≠ 0 → y ≠ 53 → y ≠ 54 → m2 y = cpyM mm 1 9 y := fun y h0 h1 h2 => by rw [u1 y h1 h2, cy y h0]
        obtain ⟨s1, s2, s3, s4, s5, s6, s7⟩ := cpy_same mm cp
        obtain ⟨tc, t1, t2, t3, t4, t5, t6, t7⟩ := t
        have m54 : ∀ i : Int, 60 ≤ i → i < 255 → m2 54 i = M 54 i := fun i a b => by rw [u3 i a b, fr 54 (by decide)]
        have v5 : m2 1 5 = M 1 5 := by
          rw [b 1 (by decide) (by decide) (by decide)]
          exact s6.trans t4
        have v6 : m2 1 6 = M 1 6 := by
          rw [b 1 (by decide) (by decide) (by decide)]
          exact s7.trans t7
        have n5 : 0 ≤ M 1 5 ∧ M 1 5 ≤ 5 := hc.2.1
        have n6 : 0 ≤ M 1 6 ∧ M 1 6 ≤ 8 := hc.2.2.2.1
        refine Inv_c2 h (Cht_eq (cpy_cht cp tc) (fun y a c => b y (by omega) (by omega) (by omega))) (Pg_of0 ⟨fun i a c => ?_, fun x a c => ?_, ?_, fun l x a c d e => ?_, ?_, fun i a c => ?_⟩) (fun y a c d => ?_) (fun i a c => m54 i (by omega) c) ?_ ?_ ?_ ?_ ?_
        · rw [b 2 (by decide) (by decide) (by decide)]
          have q := pc.1 i a c
          rw [Int.zero_add] at q
          rw [q]
          exact ((s1 i a c).trans (t1 i a c)).symm
        · rw [b 3 (by decide) (by decide) (by decide)]
          have q := (pc.2.1 x a c).1
          rw [Int.zero_add] at q
          rw [q]
          exact ((s2 x (by omega) (by omega)).trans (t2 x a c)).symm
        · rw [v5]
          exact pc.2.2.1
        · rw [v5] at c
          rw [b 4 (by decide) (by decide) (by decide)]
          have q := pc.2.2.2 l x a c d e
          rw [Int.zero_add] at q
          rw [q]
          exact ((s3 (4 * l + x) (by omega) (by omega)).trans (t3 (4 * l + x) (by omega) (by omega))).symm
        · rw [v6, m54 60 (by decide) (by decide)]
          exact hp.2.2.2.2.1
        · rw [v6] at c
          have g5 : cpyM mm 1 9 5 i = M 5 i := (s4 i a (by omega)).trans (t5 i a (by omega))
          have g6 : cpyM mm 1 9 6 i = M 6 i := (s5 i a (by omega)).trans (t6 i a (by omega))
          rw [b 5 (by decide) (by decide) (by decide), b 6 (by decide) (by decide) (by decide), g5, g6, m54 _ (by omega) (by omega), m54 (62 + 3 * i) (by omega) (by omega), m54 (63 + 3 * i) (by omega) (by omega)]
          exact hp.2.2.2.2.2 i a c
        · rw [b y (by omega) c d, cpy_ne mm (by omega), q1.1 y (by omega)]
        · rw [u1 0 (by decide) (by decide), w, mupd_at, fup_ne _ _ (by decide), cpy_ne mm (by omega), q1.2.1]
        · rw [u2 5 (by decide), fr 53 (by decide)]
        · rw [u2 6 (by decide), fr 53 (by decide)]
        · rw [u2 22 (by decide), fr 53 (by decide)]
        · rw [u1 0 (by decide) (by decide), w, mupd_at, fup_at, t30]
  · refine ⟨-1, M, M, ⟨⟨by decide, Nat.le_of_ble_eq_true rfl⟩, fun K hK => q_L_read_0 hK k a f n M ⟨_, _, R_isSheet 8 M k, ⟨fun _ => mret_i rfl rfl, fun q => ⟨_, _, R_isLane 8 M a, ⟨fun _ => mret_i rfl rfl, fun q1 => ⟨fun _ => mret_i rfl rfl, fun q2 => br_f (fun q3 => c ⟨b2_n0.mp q, b2_n0.mp q1, by omega⟩) (mret_i rfl rfl)⟩⟩⟩⟩⟩⟩, ⟨⟨by decide, Nat.le_of_ble_eq_true rfl⟩, fun K hK => q_M_read_0 hK k a f n M ⟨_, _, R_in 8 _ _ _ _, ⟨fun _ => mret_i rfl rfl, fun q => ⟨_, _, R_in 8 _ _ _ _, ⟨fun _ => mret_i rfl rfl, fun q1 => ⟨_, _, R_in 8 _ _ _ _, br_f (fun q2 => ?_) (mret_i rfl rfl)⟩⟩⟩⟩⟩⟩, h⟩
    have q := b2_n0.mp q
    have q1 := b2_n0.mp q1
    have q2 := b2_n0.mp q2
    exact c ⟨by omega, by omega, by omega⟩
