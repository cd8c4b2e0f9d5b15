/-! PURE PROOFS 76: rows, threads and laws, the other -/
def GFr (B' B : mMem) : Prop := (∀ k : Nat, k ≠ 53 → k ≠ 55 → B' k = B k) ∧ ∀ x : Int, (x < 2 ∨ (3 < x ∧ x < 7) ∨ 12 < x) → B' 53 x = B 53 x
theorem GFr_refl (B : mMem) : GFr B B := ⟨fun _ _ _ => rfl, fun _ _ => rfl⟩
theorem GFr_trans {A B C : mMem} (h : GFr A B) (g : GFr B C) : GFr A C := ⟨fun k q r => (h.1 k q r).trans (g.1 k q r), fun x q => (h.2 x q).trans (g.2 x q)⟩
theorem GFr_m {B' B : mMem} (h : MFr B' B) : GFr B' B := ⟨fun k q _ => h.1 k q, fun x q => h.2 x (by omega)⟩
theorem GFr_5 {B' B : mMem} (h : GFr B' B) {i v : Int} : GFr (mupd B' 55 i v) B := GFr_trans ⟨fun k _ w => mupd_ne _ _ _ w, fun x _ => by rw [mupd_ne _ _ _ (by decide)]⟩ h
theorem GFr_2 {B' B : mMem} (h : GFr B' B) {i v : Int} (hi : i = 2 ∨ i = 3) : GFr (mupd B' 53 i v) B := GFr_trans ⟨fun k w _ => mupd_ne _ _ _ w, fun x w => by rw [mupd_at, fup_ne _ _ (by omega)]⟩ h
theorem TpM_g {B' B : mMem} {b : Int → Int} {L : Int} (h : TpM B b L) (f : GFr B' B) : TpM B' b L := ⟨by rw [f.2 5 (by omega), h.1], fun i a c => by rw [f.1 56 (by decide) (by decide), h.2.1 i a c], h.2.2⟩
theorem LkM_5 {B : mMem} {b : Int → Int} {L n i v : Int} (h : LkM B b L n) : LkM (mupd B 55 i v) b L n := by
  unfold LkM
  rw [mupd_ne _ _ _ (by decide)]
  exact h
theorem LkM_2 {B : mMem} {b : Int → Int} {L n i v : Int} (h : LkM B b L n) (hi : i = 2 ∨ i = 3) : LkM (mupd B 53 i v) b L n := by
  unfold LkM
  rw [mupd_at, fup_ne _ _ (by omega), fup_ne _ _ (by omega), fup_ne _ _ (by omega), fup_ne _ _ (by omega), fup_ne _ _ (by omega), fup_ne _ _ (by omega)]
  exact h
def PgT (B : mMem) (q : Sig) : Prop := (∀ i : Int, 0 ≤ i → i < 36 → B 55 i = q.1 i) ∧ (∀ c : Int, 1 ≤ c → c ≤ 3 → B 55 (35 + c) + 20 = q.2.1 c) ∧ B 55 39 = q.2.2.2.1 ∧ (∀ l x : Int, 0 ≤ l → l < q.2.2.2.1 → 0 ≤ x → x < 4 → B 55 (40 + 5 * x + l) = q.2.2.1 (4 * l + x)) ∧ B 55 60 = 0 ∧ (0 ≤ q.2.2.2.1 ∧ q.2.2.2.1 ≤ 5) ∧ B 53 2 = q.2.2.2.2.1 ∧ B 53 3 = q.2.2.2.2.2
theorem PgT_m {B' B : mMem} {q : Sig} (h : PgT B q) (f : MFr B' B) : PgT B' q := by
  unfold PgT
  rw [f.1 55 (by decide), f.2 2 (by omega), f.2 3 (by omega)]
  exact h
theorem nu_pos {b : Int → Int} {L lo hi n : Int} (h : nuK b L lo hi n ≠ 0) : 0 < nuK b L lo hi n := by
  revert h
  unfold nuK
  split
  · exact fun _ => by decide
  · split
    · exact fun _ => by decide
    · split
      · exact fun _ => by decide
      · exact fun w => absurd rfl w
theorem ot_pos {b : Int → Int} {L lo hi so n : Int} (h : otK b L lo hi so n ≠ 0) : 0 < otK b L lo hi so n := by
  revert h
  unfold otK
  split
  · rename_i c
    exact fun _ => nu_pos c
  · split
    · exact fun _ => by decide
    · exact fun w => absurd rfl w
theorem ot_0 (b : Int → Int) (L lo hi n : Int) : otK b L lo hi 0 n = nuK b L lo hi n := by
  unfold otK
  split
  · rfl
  · rename_i c
    rw [if_neg (fun w => w.1 rfl)]
    exact (Decidable.not_not.mp c).symm
theorem M_num (d : Nat) {B : mMem} {b : Int → Int} {L n lo hi : Int} (tp : TpM B b L) (hn : 0 ≤ n ∧ n ≤ L) (lk : LkM B b L n) : mI3 (d + 3) 122 [vr 53, vi lo, vi hi, vi 0] B (fun v B' => MFr B' B ∧ ((nuK b L lo hi n = 0 ∧ v = tV b L n ∧ (lo ≤ v ∧ v ≤ hi) ∧ LkM B' b L (tE b L n)) ∨ (nuK b L lo hi n ≠ 0 ∧ v = lo ∧ B' 53 7 = nuK b L lo hi n ∧ B' 53 8 = tS b L n))) := by
  have h := M_other d (lo := lo) (hi := hi) (so := 0) tp hn lk
  rw [ot_0] at h
  exact h
/-- how a line's middle ends -/
def MoM (B : mMem) (b : Int → Int) (L : Int) (B' : mMem) (R : Int × Int × Int × Sig) : Prop := GFr B' B ∧ ((∃ (m : Int) (q : Sig), (0 ≤ m ∧ m ≤ L) ∧ LkM B' b L m ∧ PgT B' q ∧ (stK b L m = 0 → R = (0, 0, tE b L m, q)) ∧ (stK b L m ≠ 0 → R.1 = stK b L m ∧ R.2.1 = tS b L m)) ∨ (0 < R.1 ∧ B' 53 7 = R.1 ∧ B' 53 8 = R.2.1))
theorem M_row (d : Nat) {B : mMem} {b : Int → Int} {L n : Int} {q : Sig} (tp : TpM B b L) (hn : 0 ≤ n ∧ n ≤ L) (lk : LkM B b L n) (h : PgT B q) : mN3 (d + 4) 123 [vr 53] B (fun B' => MoM B b L B' (rwP b L n q)) := by
  have er := (tE_rng (b := b) hn).2.1
  have sr := (tE_rng (b := b) hn).1
  refine mN3_i ⟨by decide, Nat.le_of_ble_eq_true rfl⟩ (fun K hK => q_M_readRow_0 hK B ?_)
  rw [h.2.2.2.2.2.2.1]
  refine cI (M_other d tp hn lk) (fun v B1 p => ?_)
  obtain ⟨f, p⟩ := p
  have eR : rwP b L n q = if otK b L 0 5 q.2.2.2.2.1 n ≠ 0 then (otK b L 0 5 q.2.2.2.2.1 n, tS b L n, n, q) else ((roP b L (tV b L n) 7 0 (tE b L n) q.1).1, (roP b L (tV b L n) 7 0 (tE b L n) q.1).2.1, (roP b L (tV b L n) 7 0 (tE b L n) q.1).2.2.1, ((roP b L (tV b L n) 7 0 (tE b L n) q.1).2.2.2, q.2.1, q.2.2.1, q.2.2.2.1, jor q.2.2.2.2.1 (jshl 1 (tV b L n)), q.2.2.2.2.2)) := rfl
  generalize rwP b L n q = R at *
  have h1 := PgT_m h f
  rw [h1.2.2.2.2.2.2.1]
  have dead : ∀ (x y : Int) (B2 : mMem), 0 < R.1 → B2 53 7 = R.1 → B2 53 8 = R.2.1 → GFr B2 B → K 25 [(0, vr 53), (1, vi y), (2, vi x)] [] (S0, B2) := by
    intro x y B2 r1 a7 a8 gf
    exact q_M_readRow_25 hK y x B2 (br_t (by omega) (rN_i ⟨gf, Or.inr ⟨r1, a7, a8⟩⟩))
  rcases p with ⟨k0, ev, vb, lk1⟩ | ⟨k1, ev, e7, e8⟩
  · rw [if_neg (fun w => w k0)] at eR
    rw [ev]
    rw [ev] at vb
    generalize tV b L n = y at *
    generalize jor q.2.2.2.2.1 (jshl 1 y) = s2 at *
    generalize hr : roP b L y 7 0 (tE b L n) q.1 = r at eR
    have loop : ∀ (j : Nat) (x m : Int) (g : Int → Int), x + j = 6 → 0 ≤ x → 0 ≤ m → m ≤ L → roP b L y (j + 1) x m g = r → ∀ B2 : mMem, GFr B2 B → LkM B2 b L m → PgT B2 (g, q.2.1, q.2.2.1, q.2.2.2.1, s2, q.2.2.2.2.2) → K 25 [(0, vr 53), (1, vi y), (2, vi x)] [] (S0, B2) := by
      intro j
      induction j with
      | zero =>
        intro x m g hx x0 m0 m1 he B2 gf lk2 pg
        have lk3 := lk2
        obtain ⟨l10, lk2⟩ := lk2
        have eS : stK b L m = if tB b L m ≠ 0 then 1 else if tT b L m ≠ 3 then 2 else 0 := rfl
        rw [roP_s] at he
        rcases lk2 with ⟨b0, e7, e11, e9, e12⟩ | ⟨b1, e7, e8⟩
        · rw [if_neg (fun w => w b0)] at he eS
          refine q_M_readRow_25 hK y x B2 (br_f (fun w => w e7) ⟨fun w => rN_i ⟨gf, Or.inl ⟨m, _, ⟨m0, m1⟩, lk3, pg, ?_, ?_⟩⟩, fun w => ?_⟩)
          · intro z
            by_cases t3 : tT b L m = 3
            · rw [if_pos t3] at he
              rw [eR, ← he]
            · rw [if_pos t3] at eS
              omega
          · intro z
            by_cases t3 : tT b L m = 3
            · rw [if_neg (fun w => w t3)] at eS
              omega
            · rw [if_pos t3] at eS
              rw [e11] at w
              rw [if_neg t3, if_pos w] at he
              rw [eR, ← he]
              exact ⟨eS.symm, rfl⟩
          · rw [e11] at w
            have w := Decidable.not_not.mp w
            rw [if_neg (by omega), if_neg (fun z => z w), if_pos (by omega)] at he
            refine br_f (fun z => z (by omega)) (cN (M_fails (d + 2) B2 5) (fun B3 p3 => ?_))
            rcases p3.2.2.2.2.2 with ⟨u, _⟩ | ⟨_, u1, u2⟩
            · exact absurd e7 u
            · exact dead x y B3 (by rw [eR, ← he]; show (0 : Int) < 5; decide) (by rw [eR, ← he, u1]) (by rw [eR, ← he, u2, l10]) (GFr_trans (GFr_m p3.1) gf)
        · rw [if_pos b1] at he eS
          refine q_M_readRow_25 hK y x B2 (br_t (by omega) (rN_i ⟨gf, Or.inl ⟨m, _, ⟨m0, m1⟩, lk3, pg, fun z => by omega, fun z => ?_⟩⟩))
          rw [eR, ← he]
          exact ⟨eS.symm, rfl⟩
      | succ j ih =>
        intro x m g hx x0 m0 m1 he B2 gf lk2 pg
        have lk3 := lk2
        obtain ⟨l10, lk2⟩ := lk2
        have eS : stK b L m = if tB b L m ≠ 0 then 1 else if tT b L m ≠ 3 then 2 else 0 := rfl
        have mr := tE_rng (b := b) (L := L) (n := m) ⟨m0, m1⟩
        rw [roP_s] at he
        rcases lk2 with ⟨b0, e7, e11, e9, e12⟩ | ⟨b1, e7, e8⟩
        · rw [if_neg (fun w => w b0)] at he eS
          refine q_M_readRow_25 hK y x B2 (br_f (fun w => w e7) ⟨fun w => rN_i ⟨gf, Or.inl ⟨m, _, ⟨m0, m1⟩, lk3, pg, ?_, ?_⟩⟩, fun w => ?_⟩)
          · intro z
            by_cases t3 : tT b L m = 3
            · rw [if_pos t3] at he
              rw [eR, ← he]
            · rw [if_pos t3] at eS
              omega
          · intro z
            by_cases t3 : tT b L m = 3
            · rw [if_neg (fun w => w t3)] at eS
              omega
            · rw [if_pos t3] at eS
              rw [e11] at w
              rw [if_neg t3, if_pos w] at he
              rw [eR, ← he]
              exact ⟨eS.symm, rfl⟩
          · rw [e11] at w
            have w := Decidable.not_not.mp w
            rw [if_neg (by omega), if_neg (fun z => z w), if_neg (by omega)] at he
            have vrg := tV_rng (b := b) tp.2.2.2 ⟨m0, m1⟩ b0 w
            have eN : nuK b L 0 4 m = if tB b L m ≠ 0 then 1 else if tT b L m ≠ 2 then 2 else if tV b L m < 0 ∨ 4 < tV b L m then 3 else 0 := rfl
            rw [if_neg (fun z => z b0), if_neg (fun z => z w)] at eN
            have wi : w32 (w32 (6 * x) + y) = 6 * x + y := by
              rw [w32_s (z := 6 * x) (by omega) (by omega), w32_s (by omega) (by omega)]
            have wx : w32 (x + 1) = x + 1 := w32_s (by omega) (by omega)
            refine br_t (by omega) (cI (M_num d (TpM_g tp gf) ⟨m0, m1⟩ lk3) (fun v2 B3 p3 => ?_))
            obtain ⟨f3, p3⟩ := p3
            rw [wi, wx]
            refine mIn_i (by omega) (by omega) ?_
            have gf3 : GFr (mupd B3 55 (6 * x + y) v2) B := GFr_5 (GFr_trans (GFr_m f3) gf)
            rcases p3 with ⟨k2, ev2, vb2, lk4⟩ | ⟨k2, ev2, g7, g8⟩
            · by_cases v4 : 4 < tV b L m
              · rw [if_pos (by omega)] at eN
                omega
              · rw [if_neg v4, ← ev2] at he
                refine ih (x + 1) (tE b L m) _ (by omega) (by omega) (by omega) mr.2.1.2 he _ gf3 (LkM_5 lk4) ?_
                obtain ⟨g1, g2, g3, g4, g5, g6, g7, g8⟩ := PgT_m pg f3
                have eu : mupd B3 55 (6 * x + y) v2 55 = fup (B3 55) (6 * x + y) v2 := mupd_at _ _ _ _
                refine ⟨?_, ?_, ?_, ?_, ?_, g6, ?_, ?_⟩
                · intro i a c
                  rw [eu]
                  show fup (B3 55) (6 * x + y) v2 i = fup g (6 * x + y) v2 i
                  unfold fup
                  rw [g1 i a c]
                · intro c a z
                  rw [eu, fup_ne _ _ (by omega)]
                  exact g2 c a z
                · rw [eu, fup_ne _ _ (by omega)]
                  exact g3
                · intro l z a1 a2 a3 a4
                  rw [eu, fup_ne _ _ (by omega)]
                  exact g4 l z a1 a2 a3 a4
                · rw [eu, fup_ne _ _ (by omega)]
                  exact g5
                · rw [mupd_ne _ _ _ (by decide)]
                  exact g7
                · rw [mupd_ne _ _ _ (by decide)]
                  exact g8
            · by_cases v4 : 4 < tV b L m
              · rw [if_pos (by omega)] at eN
                rw [if_pos v4] at he
                refine dead _ y _ (by rw [eR, ← he]; show (0 : Int) < 3; decide) ?_ ?_ gf3
                · rw [mupd_ne _ _ _ (by decide), g7, eN, eR, ← he]
                · rw [mupd_ne _ _ _ (by decide), g8, eR, ← he]
              · rw [if_neg (by omega)] at eN
                exact absurd eN k2
        · rw [if_pos b1] at he eS
          refine q_M_readRow_25 hK y x B2 (br_t (by omega) (rN_i ⟨gf, Or.inl ⟨m, _, ⟨m0, m1⟩, lk3, pg, fun z => by omega, fun z => ?_⟩⟩))
          rw [eR, ← he]
          exact ⟨eS.symm, rfl⟩
    refine loop 6 0 (tE b L n) q.1 (by omega) (by omega) (by omega) er.2 hr _ (GFr_2 (GFr_m f) (Or.inl rfl)) (LkM_2 lk1 (Or.inl rfl)) ?_
    obtain ⟨g1, g2, g3, g4, g5, g6, g7, g8⟩ := h1
    unfold PgT
    rw [mupd_ne _ _ _ (by decide), mupd_at, fup_at, fup_ne _ _ (by decide)]
    exact ⟨g1, g2, g3, g4, g5, g6, rfl, g8⟩
  · rw [if_pos k1] at eR
    refine dead 0 v _ (by rw [eR]; exact ot_pos k1) ?_ ?_ (GFr_2 (GFr_m f) (Or.inl rfl))
    · rw [mupd_at, fup_ne _ _ (by decide), e7, eR]
    · rw [mupd_at, fup_ne _ _ (by decide), e8, eR]
