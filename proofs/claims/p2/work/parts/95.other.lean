/-! PURE PROOFS 70: numbers, the other -/
def TpM (B : mMem) (b : Int → Int) (L : Int) : Prop := B 53 5 = L ∧ (∀ i : Int, 0 ≤ i → i < L → B 56 i = b i) ∧ (0 ≤ L ∧ L ≤ 160) ∧ ∀ i : Int, 0 ≤ i → i < L → 0 ≤ b i ∧ b i ≤ 127
theorem TpM_fr {B' B : mMem} {b : Int → Int} {L : Int} (h : TpM B b L) (f : MFr B' B) : TpM B' b L := ⟨by rw [f.2 5 (by omega), h.1], fun i a c => by rw [f.1 56 (by decide), h.2.1 i a c], h.2.2⟩
/-- the token at n is the one ahead -/
def LkM (B : mMem) (b : Int → Int) (L n : Int) : Prop := B 53 10 = tS b L n ∧ ((tB b L n = 0 ∧ B 53 7 = 0 ∧ B 53 11 = tT b L n ∧ B 53 9 = tE b L n ∧ (tT b L n = 2 → B 53 12 = tV b L n)) ∨ (tB b L n ≠ 0 ∧ B 53 7 = 1 ∧ B 53 8 = tS b L n))
theorem M_next (d : Nat) {B : mMem} {b : Int → Int} {L n : Int} (tp : TpM B b L) (hn : 0 ≤ n ∧ n ≤ L) (h7 : B 53 7 = 0) (h9 : B 53 9 = n) : mN3 (d + 2) 121 [vr 53] B (fun B' => MFr B' B ∧ LkM B' b L n) := by
  obtain ⟨t1, t2, t3, t4⟩ := tp
  obtain ⟨B', p, r⟩ := M_step d hn (by omega) t1 t2 t4 h7 h9
  refine ⟨B', ⟨p.1, p.2.1, ?_⟩, r⟩
  rcases p.2.2 with ⟨a, b, c, e⟩ | w
  · exact Or.inl ⟨a, b, e⟩
  · exact Or.inr w
theorem M_next0 (d : Nat) {B : mMem} (h7 : 0 < B 53 7) : mR3 (d + 2) 121 [vr 53] (S0, B) (none, (S0, B)) := ⟨⟨by decide, Nat.le_of_ble_eq_true rfl⟩, fun K hK => q_M_step_0 hK B (br_f (by omega) (mret_n rfl))⟩
def otK (b : Int → Int) (L lo hi so n : Int) : Int := if nuK b L lo hi n ≠ 0 then nuK b L lo hi n else if so ≠ 0 ∧ jand (jshr so (tV b L n)) 1 = 1 then 4 else 0
theorem M_other0 (d : Nat) {B : mMem} {lo hi so : Int} (h7 : 0 < B 53 7) : mR3 (d + 3) 122 [vr 53, vi lo, vi hi, vi so] (S0, B) (some (vi lo), (S0, B)) :=
  ⟨⟨by decide, Nat.le_of_ble_eq_true rfl⟩, fun K hK => q_M_other_0 hK lo hi so B (br_t (by omega) (q_M_other_20 hK lo hi so B (br_t (by omega) (q_M_other_47 hK lo so B (br_t (by omega) (q_M_other_75 hK lo B (br_t (by omega) ⟨_, M_next0 d h7, mret_i rfl rfl⟩)))))))⟩
theorem M_other (d : Nat) {B : mMem} {b : Int → Int} {L n lo hi so : Int} (tp : TpM B b L) (hn : 0 ≤ n ∧ n ≤ L) (lk : LkM B b L n) : mI3 (d + 3) 122 [vr 53, vi lo, vi hi, vi so] B (fun v B' => MFr B' B ∧ ((otK b L lo hi so n = 0 ∧ v = tV b L n ∧ (lo ≤ v ∧ v ≤ hi) ∧ LkM B' b L (tE b L n)) ∨ (otK b L lo hi so n ≠ 0 ∧ v = lo ∧ B' 53 7 = otK b L lo hi so n ∧ B' 53 8 = tS b L n))) := by
  have er := (tE_rng (b := b) hn).2.1
  have sr := (tE_rng (b := b) hn).1
  obtain ⟨e10, lk⟩ := lk
  have eO : otK b L lo hi so n = if nuK b L lo hi n ≠ 0 then nuK b L lo hi n else if so ≠ 0 ∧ jand (jshr so (tV b L n)) 1 = 1 then 4 else 0 := rfl
  have eK : nuK b L lo hi n = if tB b L n ≠ 0 then 1 else if tT b L n ≠ 2 then 2 else if tV b L n < lo ∨ hi < tV b L n then 3 else 0 := rfl
  refine mI3_i ⟨by decide, Nat.le_of_ble_eq_true rfl⟩ (fun K hK => ?_)
  generalize otK b L lo hi so n = O at *
  generalize nuK b L lo hi n = k at *
  have bad : ∀ m : mMem, MFr m B → m 53 7 = O → O ≠ 0 → 0 < O → m 53 8 = tS b L n → K 75 [(0, vr 53), (1, vi lo)] [] (S0, m) := fun m f e7 o0 o1 e8 => q_M_other_75 hK lo m (br_t (by omega) ⟨_, M_next0 d (by omega), rI_i ⟨f, Or.inr ⟨o0, rfl, e7, e8⟩⟩⟩)
  have bad47 : ∀ m : mMem, MFr m B → m 53 7 = O → O ≠ 0 → 0 < O → m 53 8 = tS b L n → K 47 [(0, vr 53), (1, vi lo), (3, vi so)] [] (S0, m) := fun m f e7 o0 o1 e8 => q_M_other_47 hK lo so m (br_t (by omega) (bad m f e7 o0 o1 e8))
  have bad20 : ∀ m : mMem, MFr m B → m 53 7 = O → O ≠ 0 → 0 < O → m 53 8 = tS b L n → K 20 [(0, vr 53), (1, vi lo), (2, vi hi), (3, vi so)] [] (S0, m) := fun m f e7 o0 o1 e8 => q_M_other_20 hK lo hi so m (br_t (by omega) (bad47 m f e7 o0 o1 e8))
  rcases lk with ⟨b0, e7, e11, e9, e12⟩ | ⟨b1, e7, e8⟩
  · rw [if_neg (fun w => w b0)] at eK
    refine q_M_other_0 hK lo hi so B (br_f (fun w => w e7) ⟨fun q => ?_, fun q => cN (M_fails (d + 1) B 2) (fun m p => ?_)⟩)
    · rw [e11] at q
      rw [if_neg (fun w => w q)] at eK
      have e12 := e12 q
      refine q_M_other_20 hK lo hi so B (br_f (fun w => w e7) ?_)
      rw [e12]
      refine ⟨_, _, R_in (d + 1) B _ _ _, fun y => ?_, fun y => cN (M_fails (d + 1) B 3) (fun m p => ?_)⟩
      · have y := b2_n0.mp y
        rw [if_neg (by omega)] at eK
        rw [if_neg (fun w => w eK)] at eO
        have good : (¬ (so ≠ 0 ∧ jand (jshr so (tV b L n)) 1 = 1)) → K 75 [(0, vr 53), (1, vi lo)] [] (S0, B) := by
          intro w
          rw [if_neg w] at eO
          refine q_M_other_75 hK lo B (br_f (fun z => z e7) (cN (M_next d (tp := tp) (n := tE b L n) (by omega) e7 e9) (fun m p => ?_)))
          rw [e12]
          exact rI_i ⟨p.1, Or.inl ⟨eO, rfl, y, p.2⟩⟩
        refine q_M_other_47 hK lo so B (br_f (fun w => w e7) ⟨fun w => good (fun z => z.1 w), fun w => ?_⟩)
        rw [e12]
        refine ⟨fun w2 => good (fun z => w2 z.2), fun w2 => cN (M_fails (d + 1) B 4) (fun m p => ?_)⟩
        rw [if_pos ⟨w, Decidable.not_not.mp w2⟩] at eO
        rcases p.2.2.2.2.2 with ⟨u, _⟩ | ⟨_, u1, u2⟩
        · exact absurd e7 u
        · exact bad m p.1 (by omega) (by omega) (by omega) (by rw [u2, e10])
      · have y := b2_0.mp (Decidable.not_not.mp y)
        rw [if_pos (by omega)] at eK
        rw [if_pos (by omega)] at eO
        rcases p.2.2.2.2.2 with ⟨u, _⟩ | ⟨_, u1, u2⟩
        · exact absurd e7 u
        · exact bad47 m p.1 (by omega) (by omega) (by omega) (by rw [u2, e10])
    · rw [e11] at q
      rw [if_pos q] at eK
      rw [if_pos (by omega)] at eO
      rcases p.2.2.2.2.2 with ⟨u, _⟩ | ⟨_, u1, u2⟩
      · exact absurd e7 u
      · exact bad20 m p.1 (by omega) (by omega) (by omega) (by rw [u2, e10])
  · rw [if_pos b1] at eK
    rw [if_pos (by omega)] at eO
    exact q_M_other_0 hK lo hi so B (br_t (by omega) (bad20 B (MFr_refl B) (by omega) (by omega) (by omega) e8))
