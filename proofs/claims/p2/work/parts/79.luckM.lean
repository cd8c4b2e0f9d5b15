/-! PURE PROOFS 56: luck and mean, the other -/
theorem ru_cong {f g : Int → Int} (h : ∀ i : Int, 0 ≤ i → i < 36 → f i = g i) : ∀ n : Nat, n ≤ 30 → lrC f n = lrC g n ∧ ruF f n = ruF g n
  | 0, _ => ⟨rfl, rfl⟩
  | n + 1, q => by
    obtain ⟨a, b⟩ := ru_cong h n (by omega)
    rw [lrC_s, lrC_s, ruF_s, ruF_s, a, b, h (n : Nat) (by omega) (by omega), h ((n : Nat) + 6) (by omega) (by omega)]
    exact ⟨rfl, rfl⟩
def RuM (M m0 m : mMem) (H : Int → Int) (cn : Nat) : Prop := FrM m m0 ∧ (∀ i : Int, 0 ≤ i → i < 85 → m 54 i = M 54 i) ∧ ∀ i : Int, 0 ≤ i → i < cn → m 59 i = H i
theorem M_run (d : Nat) {M m0 : mMem} {cn : Nat} (hg : Pg M 1 0) (m54 : ∀ i : Int, 0 ≤ i → i < 85 → m0 54 i = M 54 i) (hcn : RcP M cn) : mI3 (d + 1) 168 [vr 53] m0 (fun v m' => v = cn ∧ RuM M m0 m' (ruF (M 2) 30) cn) := by
  have hp := Pg0_of hg
  have cg := ru_cong (f := m0 54) (g := M 2) (fun i a b => by rw [m54 i a (by omega), hp.1 i a b]) 30 (by omega)
  have hcn : lrC (M 2) 30 = cn := hcn
  refine ⟨_, _, ⟨?_, ⟨fun k _ _ a _ _ => lrM_ne m0 _ a 30, ?_, ?_, ?_, ?_, fun i _ _ => ?_⟩, fun i a b => ?_, fun i a b => ?_⟩, R_laysRunning d m0⟩
  · rw [cg.1, hcn]
  · rw [lrM_ne m0 _ (by decide) 30]
  · rw [lrM_ne m0 _ (by decide) 30]
  · rw [lrM_ne m0 _ (by decide) 30]
  · rw [lrM_ne m0 _ (by decide) 30]
  · rw [lrM_ne m0 _ (by decide) 30]
  · rw [lrM_ne m0 _ (by decide) 30, m54 i a b]
  · rw [lrM_59 m0 (m0 54) 30 i a (by rw [cg.1, hcn]; exact b), cg.2]
theorem M_run0 (d : Nat) {M m0 : mMem} (hg : Pg M 1 0) (m54 : ∀ i : Int, 0 ≤ i → i < 85 → m0 54 i = M 54 i) (h : 8 < lrC (M 2) 30) : mI3 (d + 1) 168 [vr 53] m0 (fun v m' => 8 < v ∧ FrM m' m0) := by
  have hp := Pg0_of hg
  have cg := ru_cong (f := m0 54) (g := M 2) (fun i a b => by rw [m54 i a (by omega), hp.1 i a b]) 30 (by omega)
  refine ⟨_, _, ⟨?_, ⟨fun k _ _ a _ _ => lrM_ne m0 _ a 30, ?_, ?_, ?_, ?_, fun i _ _ => ?_⟩⟩, R_laysRunning d m0⟩
  · rw [cg.1]
    exact h
  · rw [lrM_ne m0 _ (by decide) 30]
  · rw [lrM_ne m0 _ (by decide) 30]
  · rw [lrM_ne m0 _ (by decide) 30]
  · rw [lrM_ne m0 _ (by decide) 30]
  · rw [lrM_ne m0 _ (by decide) 30]
theorem M_by (d : Nat) {M m0 : mMem} {v l x : Int} {cn k : Nat} (hg : Pg M 1 0) (hc : Cht M 1) (hv : 0 ≤ v ∧ v ≤ 10) (hl : l = -4 ∨ (0 ≤ l ∧ l < M 1 5)) (hk : M 1 5 = k) (m54 : ∀ i : Int, 0 ≤ i → i < 85 → m0 54 i = M 54 i) (hcn : RcP M cn) (ok : RuOK M (ruF (M 2) 30) cn) : mL3 (d + 4) 169 [vr 53, vi v, vi l, vi x] m0 (fun w m' => w = frV cn (upS M (ruF (M 2) 30) cn k v l (2 ^ cn)) x ∧ FrM m' m0) := by
  have n5 : 0 ≤ M 1 5 ∧ M 1 5 ≤ 5 := hc.2.1
  have k5 : k ≤ 5 := by omega
  have hL := hc.2.2.1
  rw [hk] at hL
  have u60 : ∀ _ : True, 0 ≤ upS M (ruF (M 2) 30) cn k v l (2 ^ cn) ∧ upS M (ruF (M 2) 30) cn k v l (2 ^ cn) < 2 ^ 60 := fun _ => upS_60 (H := ruF (M 2) 30) (l := l) hv ok.1 k5 hL
  have bw : ∀ _ : True, 0 < beW cn := fun _ => by
    have b := beW_rng cn (by have := ok.1; omega)
    omega
  have b256 : ∃ N : Nat, N = 2 ^ cn ∧ N ≤ 256 := ⟨_, rfl, sc_b cn (by have := ok.1; omega)⟩
  obtain ⟨N, hN, b256⟩ := b256
  have sv : ∀ _ : True, jshl 1 (cn : Int) = (N : Int) := fun _ => by
    rw [hN]
    exact sc_v cn (by have := ok.1; omega)
  rw [← hN]
  rw [← hN] at u60
  clear hN
  have urg := fun q hq => upS_rng hv ok.1 k5 hL (H := ruF (M 2) 30) (l := l) q hq
  obtain ⟨o1, o2, o3⟩ := ok
  refine mL3_i ⟨by decide, Nat.le_of_ble_eq_true rfl⟩ (fun K hK => q_M_byRuns_0 hK v l x m0 (cI (M_run (d + 2) hg m54 hcn) (fun cv m1 p => ?_)))
  obtain ⟨pc, p⟩ := p
  rw [pc]
  generalize ruF (M 2) 30 = H at *
  have l39 : ∀ (j i : Nat), i + j = N → ∀ m' : mMem, RuM M m0 m' H cn → K 39 [(0, vr 53), (1, vi v), (2, vi l), (3, vi x), (4, vi (cn : Int)), (5, vl (upS M H cn k v l i)), (7, vl (beW cn)), (9, vi (i : Int))] [] (S0, m') := by
    intro j
    induction j with
    | zero =>
      intro i hi m' h1
      rw [show i = N by omega]
      exact q_M_byRuns_39 hK _ _ _ _ _ _ _ m' (br_t (by rw [sv trivial]; exact Int.le_refl _) ⟨_, _, M_low (d + 2) m' (u60 trivial).1 (bw trivial), rL_i ⟨rfl, h1.1⟩⟩)
    | succ j ih =>
      intro i hi m' h1
      have h4 := ih (i + 1) (by omega)
      have ug := urg i (by omega)
      rw [upS_s] at h4
      have ew : w32 ((i : Int) + 1) = ((i + 1 : Nat) : Int) := by rw [w32_s (by omega) (by omega)]; omega
      have lt : ¬ (N : Int) ≤ (i : Int) := by omega
      have w8 := weF_8 hv (q := (i : Int)) o1
      have i256 : (i : Int) ≤ 256 := by omega
      generalize upS M H cn k v l i = u at h4 ug
      refine q_M_byRuns_39 hK _ _ _ _ _ _ _ m' (br_f (by rw [sv trivial]; exact lt) ⟨_, R_copies (d + 2) m' 0 340 (by omega) (by omega) (by omega), ?_⟩)
      have inner : ∀ (j2 i2 : Nat), i2 + j2 = cn → ∀ m2 : mMem, PgC m2 M 340 (rmF (M 2) H (i : Int) i2) (M 3) → RuM M m0 m2 H cn → K 62 [(0, vr 53), (1, vi v), (2, vi l), (3, vi x), (4, vi (cn : Int)), (5, vl u), (7, vl (beW cn)), (9, vi (i : Int)), (10, vl (weF v (i : Int) i2)), (12, vi (i2 : Int))] [] (S0, m2) := by
        intro j2
        induction j2 with
        | zero =>
          intro i2 hi2 m2 g1 g2
          rw [show i2 = cn by omega] at g1 ⊢
          generalize weF v (i : Int) cn = w0 at w8 h4
          have e0 : w64 (u + w64 (w0 * 0)) = u := by
            rw [Int.mul_zero, show w64 0 = 0 from rfl, Int.add_zero]
            exact w64_id ⟨by omega, by omega⟩
          have e1 : w64 (w0 * 1) = w0 := by
            rw [Int.mul_one]
            exact w64_id ⟨by omega, by omega⟩
          refine q_M_byRuns_62 hK _ _ _ _ _ _ _ _ _ m2 (br_t (Int.le_refl _) ⟨fun y => ⟨_, _, G_reads (d + 1) g1 (by omega) hc (by omega), ?_⟩, fun y => ⟨_, _, G_worth d g1 (by omega) hc hk k5, ?_⟩⟩)
          · rw [if_pos y] at h4
            rw [ew, e0, e1]
            refine ⟨fun y2 => ?_, fun y2 => ?_⟩
            · rw [if_pos y2] at h4
              exact h4 m2 g2
            · rw [if_neg y2] at h4
              exact h4 m2 g2
          · rw [if_neg y] at h4
            rw [ew]
            exact h4 m2 g2
        | succ j2 ih2 =>
          intro i2 hi2 m2 g1 g2
          have f4 := ih2 (i2 + 1) (by omega)
          rw [weF_s, rmF_s] at f4
          generalize weF v (i : Int) i2 = w0 at f4
          generalize rmF (M 2) H (i : Int) i2 = g' at g1 f4
          generalize (i : Int) = q at *
          have hz : ∃ z : Int, z = (i2 : Int) := ⟨_, rfl⟩
          obtain ⟨z, hz⟩ := hz
          have ez : ((i2 + 1 : Nat) : Int) = z + 1 := by omega
          rw [ez, ← hz] at f4
          rw [← hz]
          have zb : 0 ≤ z ∧ z < cn ∧ z < 8 := by omega
          clear hz ez hi2 ih2
          have ez1 : w32 (z + 1) = z + 1 := w32_s (by omega) (by omega)
          have hb := (o2 z (by omega) (by omega)).1
          have e59 : m2 59 z = H z := g2.2.2 z (by omega) (by omega)
          have w6 : w32 (w32 (340 + H z) + 6) = 340 + (H z + 6) := by
            rw [w32_s (z := 340 + H z) (by omega) (by omega), w32_s (by omega) (by omega)]
            omega
          refine q_M_byRuns_62 hK _ _ _ _ _ _ _ _ _ m2 (br_f (by omega) ⟨fun y => q_M_byRuns_85 hK _ _ _ _ _ _ _ _ _ 0 m2 (br_t rfl (q_M_byRuns_104 hK _ _ _ _ _ _ _ _ 0 _ _ m2 (br_t rfl ?_))), fun y => q_M_byRuns_85 hK _ _ _ _ _ _ _ _ _ 1 m2 (br_f (by decide) (q_M_byRuns_104 hK _ _ _ _ _ _ _ _ 1 _ _ m2 (br_f (by decide) ?_)))⟩)
          · rw [if_pos y, if_pos y] at f4
            rw [ez1]
            exact f4 m2 g1 g2
          · rw [if_neg y, if_neg y] at f4
            rw [ez1, e59, w6]
            refine mIn_i (by omega) (by omega) (mIn_i (by omega) (by omega) (f4 _ (G_set g1 hc (by omega)) ⟨FrM_set g2.1 (by omega), fun a b c => ?_, fun a b c => ?_⟩))
            · rw [mupd_at, fup_ne _ _ (by omega), g2.2.1 a b c]
            · rw [mupd_ne _ _ _ (by decide), g2.2.2 a b c]
      refine inner cn 0 (by omega) _ (G_copy hg hc h1.2.1) ⟨FrM_cpy h1.1 (by decide), fun a b c => ?_, fun a b c => ?_⟩
      · unfold mcpy
        rw [if_neg (by omega), h1.2.1 a b c]
      · rw [mcpy_ne _ _ _ _ _ (by decide), h1.2.2 a b c]
  have l15 : ∀ (j i : Nat), i + j = cn → K 15 [(0, vr 53), (1, vi v), (2, vi l), (3, vi x), (4, vi (cn : Int)), (5, vl ((0 : Nat) : Int)), (7, vl (beW i)), (9, vi (i : Int))] [] (S0, m1) := by
    intro j
    induction j with
    | zero =>
      intro i hi
      rw [show i = cn by omega]
      exact q_M_byRuns_15 hK _ _ _ _ _ _ _ m1 (br_t (Int.le_refl _) (l39 N 0 (by omega) m1 p))
    | succ j ih =>
      intro i hi
      have ew : w32 ((i : Int) + 1) = ((i + 1 : Nat) : Int) := by rw [w32_s (by omega) (by omega)]; omega
      have lt : ¬ (cn : Int) ≤ (i : Int) := by omega
      refine q_M_byRuns_15 hK _ _ _ _ _ _ _ m1 (br_f lt ?_)
      rw [ew]
      exact ih (i + 1) (by omega)
  exact l15 cn 0 (by omega)
