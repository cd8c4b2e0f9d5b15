/-! PURE PROOFS 79: text -/
def TxM (B B' : mMem) (v : Int) (r : Int × Int × Int × Sig) : Prop := (∀ k : Nat, k ≠ 53 → k ≠ 54 → k ≠ 55 → k ≠ 63 → B' k = B k) ∧ (∀ x : Int, 12 < x → x ≠ 22 → B' 53 x = B 53 x) ∧ B' 53 5 = 0 ∧ B' 53 6 = r.1 ∧ (∀ i : Int, 85 ≤ i → B' 54 i = B 54 i) ∧ ((r.1 = 0 ∧ v = r.2.2.1 ∧ B' 53 22 = 0 ∧ B' 63 0 = 0 ∧ B' 63 1 = 0 ∧ ∃ N : mMem, PgT N r.2.2.2 ∧ ∀ i : Int, 0 ≤ i → i < 85 → B' 54 i = N 55 i) ∨ (0 < r.1 ∧ v = w32 ((-10) - r.2.1) ∧ B' 53 22 = B 53 22 ∧ B' 63 = B 63 ∧ B' 54 = B 54))
theorem M_text {B : mMem} {b : Int → Int} {L : Int} (tp : TpM B b L) (h57 : B 57 = M0 57) (h58 : B 58 = M0 58) : mI3 10 126 [vr 53] B (fun v B' => TxM B B' v (teP b L 162 0 0 q0)) := by
  generalize hr : teP b L 162 0 0 q0 = r
  refine mI3_i ⟨by decide, Nat.le_of_ble_eq_true rfl⟩ (fun K hK => q_M_text_0 hK B ?_)
  have tl := tp.2.2.1
  have k71 : ∀ (c : Int) (B2 : mMem), GFr B2 B → B2 53 7 = r.1 → (r.1 = 0 → c = r.2.2.1 ∧ PgT B2 r.2.2.2) → (r.1 ≠ 0 → 0 < r.1 ∧ B2 53 8 = r.2.1) → K 71 [(0, vr 53), (1, vi c)] [] (S0, B2) := by
    intro c B2 gf e7 hz hf
    have n0 : ∀ k : Nat, k ≠ 53 → mupd (mupd B2 53 5 0) 53 6 (mupd B2 53 5 0 53 7) k = B2 k := fun k w => by rw [mupd_ne _ _ _ w, mupd_ne _ _ _ w]
    have n1 : ∀ x : Int, x ≠ 5 → x ≠ 6 → mupd (mupd B2 53 5 0) 53 6 (mupd B2 53 5 0 53 7) 53 x = B2 53 x := fun x w w2 => by rw [mupd_at, fup_ne _ _ w2, mupd_at, fup_ne _ _ w]
    have n5 : mupd (mupd B2 53 5 0) 53 6 (mupd B2 53 5 0 53 7) 53 5 = 0 := by rw [mupd_at, fup_ne _ _ (by decide), mupd_at, fup_at]
    have n6 : mupd (mupd B2 53 5 0) 53 6 (mupd B2 53 5 0 53 7) 53 6 = r.1 := by rw [mupd_at, fup_at, mupd_at, fup_ne _ _ (by decide), e7]
    refine q_M_text_71 hK c B2 ?_
    generalize mupd (mupd B2 53 5 0) 53 6 (mupd B2 53 5 0 53 7) = B3 at *
    have n7 : B3 53 7 = r.1 := by rw [n1 7 (by decide) (by decide), e7]
    have n8 : B3 53 8 = B2 53 8 := n1 8 (by decide) (by decide)
    refine ⟨fun w => ?_, fun w => ?_⟩
    · have r0 : r.1 = 0 := Classical.byContradiction (fun z => by have := (hf z).1; omega)
      obtain ⟨ec, pg⟩ := hz r0
      have l101 : ∀ (j i : Nat), i + j = 85 → ∀ m : mMem, (∀ k : Nat, k ≠ 54 → m k = B3 k) → (∀ x : Int, 0 ≤ x → x < (i : Int) → m 54 x = B3 55 x) → (∀ x : Int, (i : Int) ≤ x → m 54 x = B3 54 x) → K 101 [(0, vr 53), (1, vi c), (2, vi (i : Int))] [] (S0, m) := by
        intro j
        induction j with
        | zero =>
          intro i hi m hm hl hh
          have hi : i = 85 := by omega
          rw [hi] at hl hh
          rw [hi]
          refine q_M_text_101 hK c _ m (br_t (by decide) (rI_i ⟨?_, ?_, ?_, ?_, ?_, Or.inl ⟨r0, ec, ?_, ?_, ?_, B2, pg, ?_⟩⟩))
          · intro k a1 a2 a3 a4
            rw [mupd_ne _ _ _ a4, mupd_ne _ _ _ a4, mupd_ne _ _ _ a1, hm k a2, n0 k a1]
            exact gf.1 k a1 a3
          · intro x a1 a2
            rw [mupd_ne _ _ _ (by decide), mupd_ne _ _ _ (by decide), mupd_at, fup_ne _ _ a2, hm 53 (by decide), n1 x (by omega) (by omega)]
            exact gf.2 x (by omega)
          · rw [mupd_ne _ _ _ (by decide), mupd_ne _ _ _ (by decide), mupd_at, fup_ne _ _ (by decide), hm 53 (by decide), n5]
          · rw [mupd_ne _ _ _ (by decide), mupd_ne _ _ _ (by decide), mupd_at, fup_ne _ _ (by decide), hm 53 (by decide), n6]
          · intro i a
            rw [mupd_ne _ _ _ (by decide), mupd_ne _ _ _ (by decide), mupd_ne _ _ _ (by decide), hh i (by omega), n0 54 (by decide), gf.1 54 (by decide) (by decide)]
          · rw [mupd_ne _ _ _ (by decide), mupd_ne _ _ _ (by decide), mupd_at, fup_at]
          · rw [mupd_at, fup_ne _ _ (by decide), mupd_at, fup_at]
          · rw [mupd_at, fup_at]
          · intro i a1 a2
            rw [mupd_ne _ _ _ (by decide), mupd_ne _ _ _ (by decide), mupd_ne _ _ _ (by decide), hl i a1 (by omega), n0 55 (by decide)]
        | succ j ih =>
          intro i hi m hm hl hh
          have h4 := ih (i + 1) (by omega)
          have hz : ∃ z : Int, z = (i : Int) := ⟨_, rfl⟩
          obtain ⟨z, hz⟩ := hz
          have ez : ((i + 1 : Nat) : Int) = z + 1 := by omega
          rw [ez] at h4
          rw [← hz] at hl hh
          rw [← hz]
          have zb : 0 ≤ z ∧ z < 85 := by omega
          clear hz ez hi ih
          have ew : w32 (z + 1) = z + 1 := w32_s (by omega) (by omega)
          refine q_M_text_101 hK c _ m (br_f (by omega) ?_)
          rw [ew]
          refine mIn_i (by omega) (by omega) (mIn_i (by omega) (by omega) (h4 _ ?_ ?_ ?_))
          · intro k a
            rw [mupd_ne _ _ _ a]
            exact hm k a
          · intro x a1 a2
            rw [mupd_at]
            by_cases xz : x = z
            · rw [xz, fup_at, hm 55 (by decide)]
            · rw [fup_ne _ _ xz]
              exact hl x a1 (by omega)
          · intro x a1
            rw [mupd_at, fup_ne _ _ (by omega)]
            exact hh x (by omega)
      exact l101 85 0 (by omega) B3 (fun _ _ => rfl) (fun x a1 a2 => absurd a2 (by omega)) (fun _ _ => rfl)
    · have r1 := hf (by omega)
      refine rI_i ⟨?_, ?_, n5, n6, ?_, Or.inr ⟨r1.1, ?_, ?_, ?_, ?_⟩⟩
      · intro k a1 a2 a3 a4
        rw [n0 k a1]
        exact gf.1 k a1 a3
      · intro x a1 a2
        rw [n1 x (by omega) (by omega)]
        exact gf.2 x (by omega)
      · intro i a
        rw [n0 54 (by decide), gf.1 54 (by decide) (by decide)]
      · rw [n8, r1.2]
      · rw [n1 22 (by decide) (by decide)]
        exact gf.2 22 (by omega)
      · rw [n0 63 (by decide)]
        exact gf.1 63 (by decide) (by decide)
      · rw [n0 54 (by decide)]
        exact gf.1 54 (by decide) (by decide)
  have l47 : ∀ (j : Nat) (n c : Int) (q : Sig), L + 1 ≤ n + j → 0 ≤ c → c ≤ n → n ≤ L → teP b L j n c q = r → ∀ B2 : mMem, GFr B2 B → LkM B2 b L n → PgT B2 q → K 47 [(0, vr 53), (1, vi c)] [] (S0, B2) := by
    intro j
    induction j with
    | zero =>
      intro n c q hj c0 cn nl
      omega
    | succ j ih =>
      intro n c q hj c0 cn nl he B2 gf lk pg
      have lk2 := lk
      obtain ⟨l10, lk2⟩ := lk2
      rw [teP_s] at he
      have ew : w32 (c + 1) = c + 1 := w32_s (by omega) (by omega)
      rcases lk2 with ⟨b0, e7, e11, e9, _⟩ | ⟨b1, e7, e8⟩
      · rw [if_neg (fun w => w b0)] at he
        refine q_M_text_47 hK c B2 (br_f (fun w => w e7) ⟨fun w => ?_, fun w => ?_⟩)
        · rw [e11] at w
          rw [if_pos w] at he
          exact k71 c B2 gf (by rw [e7, ← he]) (fun _ => ⟨by rw [← he], by rw [← he]; exact pg⟩) (fun z => absurd (by rw [← he]) z)
        · rw [e11] at w
          rw [if_neg w] at he
          refine cN (M_line 3 (TpM_g tp gf) (n := n) ⟨by omega, nl⟩ lk b0 pg (by rw [gf.1 57 (by decide) (by decide), h57]) (by rw [gf.1 58 (by decide) (by decide), h58])) (fun B3 p3 => ?_)
          obtain ⟨gf3, p3⟩ := p3
          have gf4 := GFr_trans gf3 gf
          rw [ew]
          rcases p3 with ⟨r1, lk3, pg3⟩ | ⟨r1, g7, g8⟩
          · rw [if_neg (fun w => w r1)] at he
            have lr := li_rng (b := b) (L := L) (n := n) (q := q) ⟨by omega, nl⟩ w r1
            exact ih _ (c + 1) _ (by omega) (by omega) (by omega) lr.2 he B3 gf4 lk3 pg3
          · rw [if_pos (by omega)] at he
            refine q_M_text_47 hK (c + 1) B3 (br_t (by omega) (k71 (c + 1) B3 gf4 (by rw [g7, ← he]) (fun z => ?_) (fun z => ⟨by rw [← he]; exact r1, by rw [g8, ← he]⟩)))
            rw [← he] at z
            have z : (liP b L n q).1 = 0 := z
            omega
      · rw [if_pos b1] at he
        refine q_M_text_47 hK c B2 (br_t (by omega) (k71 c B2 gf (by rw [e7, ← he]) (fun z => ?_) (fun z => ⟨by rw [← he]; show (0 : Int) < 1; decide, by rw [e8, ← he]⟩)))
        rw [← he] at z
        exact absurd z (show (1 : Int) ≠ 0 by decide)
  have g0 : GFr (mupd (mupd (mupd (mupd B 53 7 0) 53 9 0) 53 2 0) 53 3 0) B := ⟨fun k w _ => by rw [mupd_ne _ _ _ w, mupd_ne _ _ _ w, mupd_ne _ _ _ w, mupd_ne _ _ _ w], fun x w => by rw [mupd_at, fup_ne _ _ (by omega), mupd_at, fup_ne _ _ (by omega), mupd_at, fup_ne _ _ (by omega), mupd_at, fup_ne _ _ (by omega)]⟩
  have n7 : mupd (mupd (mupd (mupd B 53 7 0) 53 9 0) 53 2 0) 53 3 0 53 7 = 0 := by rw [mupd_at, fup_ne _ _ (by decide), mupd_at, fup_ne _ _ (by decide), mupd_at, fup_ne _ _ (by decide), mupd_at, fup_at]
  have n9 : mupd (mupd (mupd (mupd B 53 7 0) 53 9 0) 53 2 0) 53 3 0 53 9 = 0 := by rw [mupd_at, fup_ne _ _ (by decide), mupd_at, fup_ne _ _ (by decide), mupd_at, fup_at]
  have n2 : mupd (mupd (mupd (mupd B 53 7 0) 53 9 0) 53 2 0) 53 3 0 53 2 = 0 := by rw [mupd_at, fup_ne _ _ (by decide), mupd_at, fup_at]
  have n3 : mupd (mupd (mupd (mupd B 53 7 0) 53 9 0) 53 2 0) 53 3 0 53 3 = 0 := by rw [mupd_at, fup_at]
  generalize mupd (mupd (mupd (mupd B 53 7 0) 53 9 0) 53 2 0) 53 3 0 = N at g0 n7 n9 n2 n3
  have l24 : ∀ (j i : Nat), i + j = 85 → ∀ m : mMem, GFr m B → m 53 = N 53 → (∀ x : Int, 0 ≤ x → x < (i : Int) → m 55 x = 0) → K 24 [(0, vr 53), (1, vi 0), (2, vi (i : Int))] [] (S0, m) := by
    intro j
    induction j with
    | zero =>
      intro i hi m gf hm hl
      have hi : i = 85 := by omega
      rw [hi] at hl
      rw [hi]
      have pg0 : PgT m q0 := by
        unfold PgT
        rw [hm, n2, n3]
        refine ⟨fun i a1 a2 => hl i a1 (by omega), fun c a1 a2 => ?_, hl 39 (by omega) (by omega), fun l x a1 a2 => ?_, hl 60 (by omega) (by omega), ⟨by decide, by decide⟩, rfl, rfl⟩
        · rw [hl (35 + c) (by omega) (by omega)]
          rfl
        · exact absurd (show l < 0 from a2) (by omega)
      refine q_M_text_24 hK 0 _ m (br_t (by decide) (cN (M_next 7 (TpM_g tp gf) (n := 0) ⟨by omega, tl.1⟩ (by rw [hm, n7]) (by rw [hm, n9])) (fun m' p => ?_)))
      exact l47 162 0 0 q0 (by omega) (by omega) (by omega) tl.1 hr m' (GFr_trans (GFr_m p.1) gf) p.2 (PgT_m pg0 p.1)
    | succ j ih =>
      intro i hi m gf hm hl
      have h4 := ih (i + 1) (by omega)
      have hz : ∃ z : Int, z = (i : Int) := ⟨_, rfl⟩
      obtain ⟨z, hz⟩ := hz
      have ez : ((i + 1 : Nat) : Int) = z + 1 := by omega
      rw [ez] at h4
      rw [← hz] at hl
      rw [← hz]
      have zb : 0 ≤ z ∧ z < 85 := by omega
      clear hz ez hi ih
      have ew : w32 (z + 1) = z + 1 := w32_s (by omega) (by omega)
      refine q_M_text_24 hK 0 _ m (br_f (by omega) ?_)
      rw [ew]
      refine mIn_i (by omega) (by omega) (h4 _ (GFr_5 gf) (by rw [mupd_ne _ _ _ (by decide), hm]) (fun x a1 a2 => ?_))
      rw [mupd_at]
      by_cases xz : x = z
      · rw [xz, fup_at]
      · rw [fup_ne _ _ xz]
        exact hl x a1 (by omega)
  exact l24 85 0 (by omega) N g0 rfl (fun x a1 a2 => absurd a2 (by omega))
def TxL (M m : mMem) (v : Int) (r : Int × Int × Int × Sig) : Prop := ∃ A : mMem, LFr A M ∧ ((r.1 = 0 ∧ v = r.2.2.1 ∧ A 35 2 = 0 ∧ TrT A r.2.2.2 ∧ m = mupd (mupd (mupd (cpyM (mupd A 35 1 0) 1 9) 0 13 0) 17 1 0) 26 1 0) ∨ (r.1 ≠ 0 ∧ v = w32 ((-10) - r.2.1) ∧ A 35 2 = r.1 ∧ m = mupd A 35 1 0))
theorem L_text {M : mMem} {b : Int → Int} {L : Int} (tp : TpL M b L) : mI3 10 47 [vr 0] M (fun v m => TxL M m v (teP b L 162 0 0 q0)) := by
  refine mI3_i ⟨by decide, Nat.le_of_ble_eq_true rfl⟩ (fun K hK => q_L_text_0 hK M (cI (T_tell 3 tp) (fun v A p => ?_)))
  generalize teP b L 162 0 0 q0 = r at *
  obtain ⟨lf, p⟩ := p
  have e2 : mupd A 35 1 0 35 2 = A 35 2 := by rw [mupd_at, fup_ne _ _ (by decide)]
  have e3 : mupd A 35 1 0 35 3 = A 35 3 := by rw [mupd_at, fup_ne _ _ (by decide)]
  rw [e2, e3]
  rcases p with ⟨r0, ev, a2, tt⟩ | ⟨r1, a2, a3⟩
  · exact br_t a2 ⟨_, R_copyFrom 8 _ 1 9 (by unfold cpP; omega), rI_i ⟨A, lf, Or.inl ⟨r0, ev, a2, tt, rfl⟩⟩⟩
  · exact br_f (by omega) (rI_i ⟨A, lf, Or.inr ⟨r1, by rw [a3], a2, rfl⟩⟩)
