/-! PURE PROOFS 77: a line, the other -/
theorem M_more4 (d : Nat) {B : mMem} {b : Int → Int} {L n : Int} {q : Sig} (tp : TpM B b L) (hn : 0 ≤ n ∧ n ≤ L) (lk : LkM B b L n) (h : PgT B q) : mN3 (d + 5) 124 [vr 53, vi 4] B (fun B' => MoM B b L B' (rwP b L n q)) :=
  mN3_i ⟨by decide, Nat.le_of_ble_eq_true rfl⟩ (fun K hK => q_M_readMore_0 hK 4 B (br_t (by decide) (br_f (fun w => w rfl) (cN (M_row d tp hn lk h) (fun B1 p => rN_i p)))))
theorem M_more5 (d : Nat) {B : mMem} {b : Int → Int} {L n : Int} {q : Sig} (tp : TpM B b L) (hn : 0 ≤ n ∧ n ≤ L) (lk : LkM B b L n) (h : PgT B q) : mN3 (d + 5) 124 [vr 53, vi 5] B (fun B' => MoM B b L B' (thP b L n q)) := by
  have er := tE_rng (b := b) hn
  have er2 := tE_rng (b := b) (L := L) (n := tE b L n) ⟨by omega, er.2.1.2⟩
  refine mN3_i ⟨by decide, Nat.le_of_ble_eq_true rfl⟩ (fun K hK => q_M_readMore_0 hK 5 B (br_t (by decide) (br_t (by decide) ?_)))
  rw [h.2.2.2.2.2.2.2]
  refine cI (M_other (d + 1) tp hn lk) (fun v B1 p => ?_)
  obtain ⟨f, p⟩ := p
  have eR : thP b L n q = if otK b L 1 3 q.2.2.2.2.2 n ≠ 0 then (otK b L 1 3 q.2.2.2.2.2 n, tS b L n, n, q) else if nuK b L 0 99 (tE b L n) ≠ 0 then (nuK b L 0 99 (tE b L n), tS b L (tE b L n), n, q) else if stK b L (tE b L (tE b L n)) ≠ 0 then (stK b L (tE b L (tE b L n)), tS b L (tE b L (tE b L n)), n, q) else (0, 0, tE b L (tE b L (tE b L n)), (q.1, fup q.2.1 (tV b L n) (tV b L (tE b L n)), q.2.2.1, q.2.2.2.1, q.2.2.2.2.1, jor q.2.2.2.2.2 (jshl 1 (tV b L n)))) := rfl
  generalize thP b L n q = R at *
  have h1 := PgT_m h f
  rw [h1.2.2.2.2.2.2.2]
  rcases p with ⟨k0, ev, vb, lk1⟩ | ⟨k1, ev, e7, e8⟩
  · rw [if_neg (fun w => w k0)] at eR
    rw [ev]
    rw [ev] at vb
    generalize tV b L n = y at *
    generalize jor q.2.2.2.2.2 (jshl 1 y) = s3 at *
    have gf1 : GFr (mupd B1 53 3 s3) B := GFr_2 (GFr_m f) (Or.inr rfl)
    refine cI (M_num (d + 1) (TpM_g tp gf1) ⟨by omega, er.2.1.2⟩ (LkM_2 lk1 (Or.inr rfl))) (fun v2 B2 p2 => ?_)
    obtain ⟨f2, p2⟩ := p2
    have gf2 := GFr_trans (GFr_m f2) gf1
    have wi : w32 (w32 (36 + y) - 1) = 35 + y := by
      rw [w32_s (z := 36 + y) (by omega) (by omega), w32_s (by omega) (by omega)]
      omega
    rw [wi]
    refine mIn_i (by omega) (by omega) ?_
    rcases p2 with ⟨k2, ev2, vb2, lk2⟩ | ⟨k2, ev2, g7, g8⟩
    · rw [if_neg (fun w => w k2)] at eR
      have w20 : w32 (v2 - 20) = v2 - 20 := w32_s (by omega) (by omega)
      rw [w20]
      have pg2 : PgT B2 (q.1, q.2.1, q.2.2.1, q.2.2.2.1, q.2.2.2.2.1, s3) := by
        refine PgT_m ?_ f2
        obtain ⟨g1, g2, g3, g4, g5, g6, g7, g8⟩ := h1
        unfold PgT
        rw [mupd_ne _ _ _ (by decide), mupd_at, fup_at, fup_ne _ _ (by decide)]
        exact ⟨g1, g2, g3, g4, g5, g6, g7, rfl⟩
      refine rN_i ⟨GFr_5 gf2, Or.inl ⟨tE b L (tE b L n), (q.1, fup q.2.1 y v2, q.2.2.1, q.2.2.2.1, q.2.2.2.2.1, s3), ⟨by omega, er2.2.1.2⟩, LkM_5 lk2, ?_, fun z => ?_, fun z => ?_⟩⟩
      · obtain ⟨g1, g2, g3, g4, g5, g6, g7, g8⟩ := pg2
        have eu : mupd B2 55 (35 + y) (v2 - 20) 55 = fup (B2 55) (35 + y) (v2 - 20) := mupd_at _ _ _ _
        refine ⟨?_, ?_, ?_, ?_, ?_, g6, ?_, ?_⟩
        · intro i a c
          rw [eu, fup_ne _ _ (by omega)]
          exact g1 i a c
        · intro c a z
          rw [eu]
          show fup (B2 55) (35 + y) (v2 - 20) (35 + c) + 20 = fup q.2.1 y v2 c
          by_cases zc : c = y
          · rw [zc, fup_at, fup_at]
            omega
          · rw [fup_ne _ _ (by omega), fup_ne _ _ zc]
            exact g2 c a z
        · rw [eu, fup_ne _ _ (by omega)]
          exact g3
        · intro l z a1 a2 a3 a4
          rw [eu, fup_ne _ _ (by omega)]
          exact g4 l z a1 a2 a3 a4
        · rw [eu, fup_ne _ _ (by omega)]
          exact g5
        · rw [mupd_ne _ _ _ (by decide)]
          exact g7
        · rw [mupd_ne _ _ _ (by decide)]
          exact g8
      · rw [if_neg (fun w => w z), ← ev2] at eR
        exact eR
      · rw [if_pos z] at eR
        rw [eR]
        exact ⟨rfl, rfl⟩
    · rw [if_pos k2] at eR
      refine rN_i ⟨GFr_5 gf2, Or.inr ⟨by rw [eR]; exact nu_pos k2, ?_, ?_⟩⟩
      · rw [mupd_ne _ _ _ (by decide), g7, eR]
      · rw [mupd_ne _ _ _ (by decide), g8, eR]
  · rw [if_pos k1] at eR
    rw [ev]
    have op := ot_pos k1
    generalize jor q.2.2.2.2.2 (jshl 1 1) = s3 at *
    refine ⟨_, _, M_other0 (d + 1) (by rw [mupd_at, fup_ne _ _ (by decide), e7]; exact op), ?_⟩
    have wi : w32 (w32 (36 + 1) - 1) = 36 := by decide
    rw [wi]
    refine mIn_i (by omega) (by omega) (rN_i ⟨GFr_5 (GFr_2 (GFr_m f) (Or.inr rfl)), Or.inr ⟨by rw [eR]; exact op, ?_, ?_⟩⟩)
    · rw [mupd_ne _ _ _ (by decide), mupd_at, fup_ne _ _ (by decide), e7, eR]
    · rw [mupd_ne _ _ _ (by decide), mupd_at, fup_ne _ _ (by decide), e8, eR]
theorem M_more3 (d : Nat) {B : mMem} {b : Int → Int} {L n p kd : Int} {q : Sig} (tp : TpM B b L) (hn : 0 ≤ n ∧ n ≤ L) (lk : LkM B b L n) (h : PgT B q) (hk : 0 ≤ kd ∧ kd ≤ 3) (h5 : q.2.2.2.1 < 5) : mN3 (d + 5) 124 [vr 53, vi kd] B (fun B' => MoM B b L B' (laP b L kd p n q)) := by
  have er := tE_rng (b := b) hn
  have er2 := tE_rng (b := b) (L := L) (n := tE b L n) ⟨by omega, er.2.1.2⟩
  have er3 := tE_rng (b := b) (L := L) (n := tE b L (tE b L n)) ⟨by omega, er2.2.1.2⟩
  have eR : laP b L kd p n q = if 5 ≤ q.2.2.2.1 then (5, p, n, q) else if nuK b L 1 3 n ≠ 0 then (nuK b L 1 3 n, tS b L n, n, q) else if nuK b L 1 3 (tE b L n) ≠ 0 then (nuK b L 1 3 (tE b L n), tS b L (tE b L n), n, q) else if nuK b L 1 9 (tE b L (tE b L n)) ≠ 0 then (nuK b L 1 9 (tE b L (tE b L n)), tS b L (tE b L (tE b L n)), n, q) else if stK b L (tE b L (tE b L (tE b L n))) ≠ 0 then (stK b L (tE b L (tE b L (tE b L n))), tS b L (tE b L (tE b L (tE b L n))), n, q) else (0, 0, tE b L (tE b L (tE b L (tE b L n))), (q.1, q.2.1, laW q.2.2.1 q.2.2.2.1 kd (tV b L n) (tV b L (tE b L n)) (tV b L (tE b L (tE b L n))), q.2.2.2.1 + 1, q.2.2.2.2.1, q.2.2.2.2.2)) := rfl
  generalize laP b L kd p n q = R at *
  rw [if_neg (by omega)] at eR
  have c0 := h.2.2.2.2.2.1.1
  have e39 := h.2.2.1
  obtain ⟨c, hc⟩ : ∃ c : Int, c = q.2.2.2.1 := ⟨_, rfl⟩
  rw [← hc] at e39 c0 h5
  have w0 : w32 (40 + c) = 40 + c := w32_s (by omega) (by omega)
  have w1 : w32 (45 + c) = 45 + c := w32_s (by omega) (by omega)
  have w2 : w32 (50 + c) = 50 + c := w32_s (by omega) (by omega)
  have w3 : w32 (55 + c) = 55 + c := w32_s (by omega) (by omega)
  have wc : w32 (c + 1) = c + 1 := w32_s (by omega) (by omega)
  refine mN3_i ⟨by decide, Nat.le_of_ble_eq_true rfl⟩ (fun K hK => q_M_readMore_0 hK kd B (br_f (by omega) ?_))
  rw [e39, w0, w1, w2, w3]
  have gf0 : GFr (mupd B 55 (40 + c) kd) B := GFr_5 (GFr_refl B)
  have u7 : ∀ (A : mMem) (i v x : Int), mupd A 55 i v 53 x = A 53 x := fun A i v x => by rw [mupd_ne _ _ _ (by decide)]
  refine mIn_i (by omega) (by omega) (cI (M_num (d + 1) (TpM_g tp gf0) hn (LkM_5 lk)) (fun v1 B1 p1 => ?_))
  obtain ⟨f1, p1⟩ := p1
  have gf1 : GFr (mupd B1 55 (45 + c) v1) B := GFr_5 (GFr_trans (GFr_m f1) gf0)
  refine mIn_i (by omega) (by omega) ?_
  rcases p1 with ⟨k1, ev1, vb1, lk1⟩ | ⟨k1, ev1, e7, e8⟩
  · rw [if_neg (fun w => w k1)] at eR
    refine cI (M_num (d + 1) (TpM_g tp gf1) ⟨by omega, er.2.1.2⟩ (LkM_5 lk1)) (fun v2 B2 p2 => ?_)
    obtain ⟨f2, p2⟩ := p2
    have gf2 : GFr (mupd B2 55 (50 + c) v2) B := GFr_5 (GFr_trans (GFr_m f2) gf1)
    refine mIn_i (by omega) (by omega) ?_
    rcases p2 with ⟨k2, ev2, vb2, lk2⟩ | ⟨k2, ev2, e7, e8⟩
    · rw [if_neg (fun w => w k2)] at eR
      refine cI (M_num (d + 1) (TpM_g tp gf2) ⟨by omega, er2.2.1.2⟩ (LkM_5 lk2)) (fun v3 B3 p3 => ?_)
      obtain ⟨f3, p3⟩ := p3
      have gf3 : GFr (mupd B3 55 (55 + c) v3) B := GFr_5 (GFr_trans (GFr_m f3) gf2)
      refine mIn_i (by omega) (by omega) ?_
      have r1 : B1 55 = fup (B 55) (40 + c) kd := by rw [f1.1 55 (by decide), mupd_at]
      have r2 : B2 55 = fup (fup (B 55) (40 + c) kd) (45 + c) v1 := by rw [f2.1 55 (by decide), mupd_at, r1]
      have r3 : B3 55 = fup (fup (fup (B 55) (40 + c) kd) (45 + c) v1) (50 + c) v2 := by rw [f3.1 55 (by decide), mupd_at, r2]
      have r4 : mupd B3 55 (55 + c) v3 55 = fup (fup (fup (fup (B 55) (40 + c) kd) (45 + c) v1) (50 + c) v2) (55 + c) v3 := by rw [mupd_at, r3]
      have s39 : mupd B3 55 (55 + c) v3 55 39 = c := by rw [r4, fup_ne _ _ (by omega), fup_ne _ _ (by omega), fup_ne _ _ (by omega), fup_ne _ _ (by omega), e39]
      rw [s39, wc]
      have s2 : mupd B3 55 (55 + c) v3 53 2 = B 53 2 := by rw [u7, f3.2 2 (by omega), u7, f2.2 2 (by omega), u7, f1.2 2 (by omega), u7]
      have s3 : mupd B3 55 (55 + c) v3 53 3 = B 53 3 := by rw [u7, f3.2 3 (by omega), u7, f2.2 3 (by omega), u7, f1.2 3 (by omega), u7]
      rcases p3 with ⟨k3, ev3, vb3, lk3⟩ | ⟨k3, ev3, e7, e8⟩
      · rw [if_neg (fun w => w k3), ← ev1, ← ev2, ← ev3] at eR
        have lk4 := LkM_5 (i := 39) (v := c + 1) (LkM_5 (i := 55 + c) (v := v3) lk3)
        generalize mupd B3 55 (55 + c) v3 = N at *
        refine rN_i ⟨GFr_5 gf3, Or.inl ⟨_, (q.1, q.2.1, laW q.2.2.1 q.2.2.2.1 kd v1 v2 v3, q.2.2.2.1 + 1, q.2.2.2.2.1, q.2.2.2.2.2), ⟨by omega, er3.2.1.2⟩, lk4, ?_, fun z => ?_, fun z => ?_⟩⟩
        · obtain ⟨g1, g2, g3, g4, g5, g6, g7, g8⟩ := h
          rw [← hc] at g4 g6
          rw [← hc]
          have ei : ∀ i : Int, i ≠ 39 → i ≠ 40 + c → i ≠ 45 + c → i ≠ 50 + c → i ≠ 55 + c → mupd N 55 39 (c + 1) 55 i = B 55 i := fun i a0 a1 a2 a3 a4 => by rw [mupd_at, fup_ne _ _ a0, r4, fup_ne _ _ a4, fup_ne _ _ a3, fup_ne _ _ a2, fup_ne _ _ a1]
          have d0 : mupd N 55 39 (c + 1) 55 (40 + c) = kd := by rw [mupd_at, fup_ne _ _ (by omega), r4, fup_ne _ _ (by omega), fup_ne _ _ (by omega), fup_ne _ _ (by omega), fup_at]
          have d1 : mupd N 55 39 (c + 1) 55 (45 + c) = v1 := by rw [mupd_at, fup_ne _ _ (by omega), r4, fup_ne _ _ (by omega), fup_ne _ _ (by omega), fup_at]
          have d2 : mupd N 55 39 (c + 1) 55 (50 + c) = v2 := by rw [mupd_at, fup_ne _ _ (by omega), r4, fup_ne _ _ (by omega), fup_at]
          have d3 : mupd N 55 39 (c + 1) 55 (55 + c) = v3 := by rw [mupd_at, fup_ne _ _ (by omega), r4, fup_at]
          refine ⟨?_, ?_, ?_, ?_, ?_, ?_, ?_, ?_⟩
          · intro i a z
            rw [ei i (by omega) (by omega) (by omega) (by omega) (by omega)]
            exact g1 i a z
          · intro i a z
            rw [ei (35 + i) (by omega) (by omega) (by omega) (by omega) (by omega)]
            exact g2 i a z
          · rw [mupd_at, fup_at]
          · intro l x l0 l1 x0 x1
            have l1 : l < c + 1 := l1
            show mupd N 55 39 (c + 1) 55 (40 + 5 * x + l) = fup (fup (fup (fup q.2.2.1 (4 * c) kd) (4 * c + 1) v1) (4 * c + 2) v2) (4 * c + 3) v3 (4 * l + x)
            by_cases lc : l < c
            · rw [ei _ (by omega) (by omega) (by omega) (by omega) (by omega), fup_ne _ _ (by omega), fup_ne _ _ (by omega), fup_ne _ _ (by omega), fup_ne _ _ (by omega)]
              exact g4 l x l0 lc x0 x1
            · have le : l = c := by omega
              rw [le]
              have xs : x = 0 ∨ x = 1 ∨ x = 2 ∨ x = 3 := by omega
              rcases xs with x | x | x | x
              · rw [x, show (40 : Int) + 5 * 0 + c = 40 + c by omega, d0, show 4 * c + (0 : Int) = 4 * c by omega, fup_ne _ _ (by omega), fup_ne _ _ (by omega), fup_ne _ _ (by omega), fup_at]
              · rw [x, show (40 : Int) + 5 * 1 + c = 45 + c by omega, d1, fup_ne _ _ (by omega), fup_ne _ _ (by omega), fup_at]
              · rw [x, show (40 : Int) + 5 * 2 + c = 50 + c by omega, d2, fup_ne _ _ (by omega), fup_at]
              · rw [x, show (40 : Int) + 5 * 3 + c = 55 + c by omega, d3, fup_at]
          · rw [ei 60 (by omega) (by omega) (by omega) (by omega) (by omega)]
            exact g5
          · show 0 ≤ c + 1 ∧ c + 1 ≤ 5
            omega
          · rw [u7, s2]
            exact g7
          · rw [u7, s3]
            exact g8
        · rw [if_neg (fun w => w z)] at eR
          exact eR
        · rw [if_pos z] at eR
          rw [eR]
          exact ⟨rfl, rfl⟩
      · rw [if_pos k3] at eR
        refine rN_i ⟨GFr_5 gf3, Or.inr ⟨by rw [eR]; exact nu_pos k3, ?_, ?_⟩⟩
        · rw [u7, u7, e7, eR]
        · rw [u7, u7, e8, eR]
    · rw [if_pos k2] at eR
      refine ⟨_, _, M_other0 (d + 1) (by rw [u7, e7]; exact nu_pos k2), mIn_i (by omega) (by omega) (rN_i ⟨GFr_5 (GFr_5 gf2), Or.inr ⟨by rw [eR]; exact nu_pos k2, ?_, ?_⟩⟩)⟩
      · rw [u7, u7, u7, e7, eR]
      · rw [u7, u7, u7, e8, eR]
  · rw [if_pos k1] at eR
    refine ⟨_, _, M_other0 (d + 1) (by rw [u7, e7]; exact nu_pos k1), mIn_i (by omega) (by omega) ⟨_, _, M_other0 (d + 1) (by rw [u7, u7, e7]; exact nu_pos k1), mIn_i (by omega) (by omega) (rN_i ⟨GFr_5 (GFr_5 (GFr_5 gf1)), Or.inr ⟨by rw [eR]; exact nu_pos k1, ?_, ?_⟩⟩)⟩⟩
    · rw [u7, u7, u7, u7, e7, eR]
    · rw [u7, u7, u7, u7, e8, eR]
