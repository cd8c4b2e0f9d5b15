/-! PURE PROOFS 71: names -/
def wm (b : Int → Int) (s e : Int) (i : Nat) : Prop := e - s = ((mstrs.getD i []).length : Nat) ∧ ∀ k : Nat, k < (mstrs.getD i []).length → b (s + (k : Nat)) = (((mstrs.getD i []).getD k 0 : Nat) : Int)
noncomputable def wmI (b : Int → Int) (s e : Int) (i : Nat) : Int := @ite Int (wm b s e i) (Classical.propDecidable _) 1 0
theorem wmI_t {b : Int → Int} {s e : Int} {i : Nat} (h : wm b s e i) : wmI b s e i = 1 := @if_pos _ (Classical.propDecidable _) h _ _ _
theorem wmI_f {b : Int → Int} {s e : Int} {i : Nat} (h : ¬ wm b s e i) : wmI b s e i = 0 := @if_neg _ (Classical.propDecidable _) h _ _ _
theorem wl : ∀ i : Nat, i < 6 → (mstrs.getD i []).length ≤ 6 ∧ 3 ≤ (mstrs.getD i []).length := by decide +kernel
theorem T_name (d : Nat) {A : mMem} {b : Int → Int} {L s e : Int} {i : Nat} (tp : TpL A b L) (hi : i < 6) (h4 : A 35 4 = e) (h6 : A 35 6 = s) (hs : 0 ≤ s ∧ s ≤ e ∧ e ≤ L) : mR3 (d + 1) 37 [vr 35, vs (i + 1)] (S0, A) (some (vi (wmI b s e i)), (S0, A)) := by
  obtain ⟨t1, t2, t3, t4⟩ := tp
  have l6 := wl i hi
  refine ⟨⟨by decide, Nat.le_of_ble_eq_true rfl⟩, fun K hK => q_T_isName_0 hK i A ?_⟩
  rw [h4, h6, w32_s (z := e - s) (by omega) (by omega)]
  refine ⟨fun q => ?_, fun q => mret_i (wmI_f (fun w => q w.1)).symm rfl⟩
  have loop : ∀ (j k : Nat), k + j = (mstrs.getD i []).length → (∀ x : Nat, x < k → b (s + (x : Nat)) = (((mstrs.getD i []).getD x 0 : Nat) : Int)) → ∀ z : Int, z = (k : Int) → K 20 [(0, vr 35), (1, vs (i + 1)), (2, vi z)] [] (S0, A) := by
    intro j
    induction j with
    | zero =>
      intro k hk h z hz
      refine q_T_isName_20 hK i z A (br_t (by omega) (mret_i (wmI_t ⟨q, fun x hx => h x (by omega)⟩).symm rfl))
    | succ j ih =>
      intro k hk h z hz
      have zt : z.toNat = k := by omega
      have ew : w32 (z + 1) = z + 1 := w32_s (by omega) (by omega)
      refine q_T_isName_20 hK i z A (br_f (by omega) ?_)
      rw [h6, w32_s (z := s + z) (by omega) (by omega), t1, zt, ew]
      refine mIn_i (by omega) (by omega) (mIn_i (by omega) (by omega) ⟨fun y => ?_, fun y => ?_⟩)
      · refine ih (k + 1) (by omega) (fun x hx => ?_) (z + 1) (by omega)
        by_cases w : x = k
        · rw [w, ← hz]
          exact y
        · exact h x (by omega)
      · refine mret_i (wmI_f (fun w => y ?_)).symm rfl
        have g := w.2 k (by omega)
        rw [← hz] at g
        exact g
  exact loop (mstrs.getD i []).length 0 (by omega) (fun x hx => absurd hx (by omega)) 0 rfl
/-- the other's number of a name, as the class has it -/
def mp (n : Nat) : Nat := [2, 3, 4, 5, 0, 1].getD n 0
theorem cu_v : ∀ n : Nat, n < 6 → (0 ≤ M0 57 n ∧ M0 57 n ≤ 25) ∧ M0 57 ((n : Int) + 1) - M0 57 n = ((mstrs.getD (mp n) []).length : Nat) := by decide +kernel
theorem le_v : ∀ n : Nat, n < 6 → ∀ k : Nat, k < (mstrs.getD (mp n) []).length → M0 58 (M0 57 n + (k : Nat)) = (((mstrs.getD (mp n) []).getD k 0 : Nat) : Int) ∧ M0 57 n + (k : Nat) < 31 := by decide +kernel
noncomputable def nmN (b : Int → Int) (s e : Int) : Nat → Nat → Int
  | 0, _ => -4
  | j + 1, n => if wmI b s e (mp n) = 1 then (n : Int) else nmN b s e j (n + 1)
theorem nmN_s (b : Int → Int) (s e : Int) (j n : Nat) : nmN b s e (j + 1) n = if wmI b s e (mp n) = 1 then (n : Int) else nmN b s e j (n + 1) := rfl
theorem M_name (d : Nat) {B : mMem} {b : Int → Int} {L s e : Int} (tp : TpM B b L) (h57 : B 57 = M0 57) (h58 : B 58 = M0 58) (h9 : B 53 9 = e) (h10 : B 53 10 = s) (hs : 0 ≤ s ∧ s ≤ e ∧ e ≤ L) (h11 : B 53 11 = 1) : mR3 (d + 2) 120 [vr 53] (S0, B) (some (vi (nmN b s e 6 0)), (S0, B)) := by
  obtain ⟨t1, t2, t3, t4⟩ := tp
  refine ⟨⟨by decide, Nat.le_of_ble_eq_true rfl⟩, fun K hK => q_M_nameHere_0 hK B ?_⟩
  have loop : ∀ (j n : Nat), n + j = 6 → nmN b s e j n = nmN b s e 6 0 → ∀ z : Int, z = (n : Int) → K 2 [(0, vr 53), (1, vi z)] [] (S0, B) := by
    intro j
    induction j with
    | zero =>
      intro n hn he z hz
      exact q_M_nameHere_2 hK z B (br_t (by omega) (mret_i he rfl))
    | succ j ih =>
      intro n hn he z hz
      have cu := cu_v n (by omega)
      have lv := le_v n (by omega)
      have l6 := wl (mp n) (by
        have : ∀ n : Nat, n < 6 → mp n < 6 := by decide
        exact this n (by omega))
      rw [nmN_s] at he
      rw [← hz] at cu lv he
      have ew : w32 (z + 1) = z + 1 := w32_s (by omega) (by omega)
      refine q_M_nameHere_2 hK z B (br_f (by omega) (br_f (fun w => w h11) ?_))
      rw [h9, h10, h57, ew, w32_s (z := e - s) (by omega) (by omega), w32_s (z := M0 57 (z + 1) - M0 57 z) (by omega) (by omega), cu.2]
      have nxt : ¬ wm b s e (mp n) → K 2 [(0, vr 53), (1, vi (w32 (z + 1)))] [] (S0, B) := fun w => by
        rw [wmI_f w, if_neg (by decide)] at he
        rw [ew]
        exact ih (n + 1) (by omega) he (z + 1) (by omega)
      refine mIn_i (by omega) (by omega) (mIn_i (by omega) (by omega) ⟨fun y => q_M_nameHere_51 hK z 0 0 B (br_t rfl (br_t rfl (nxt (fun w => y w.1)))), fun y => ?_⟩)
      have y := Decidable.not_not.mp y
      have inner : ∀ (j2 k : Nat), k + j2 = (mstrs.getD (mp n) []).length → (∀ x : Nat, x < k → b (s + (x : Nat)) = (((mstrs.getD (mp n) []).getD x 0 : Nat) : Int)) → ∀ u : Int, u = (k : Int) → K 51 [(0, vr 53), (1, vi z), (2, vi 1), (3, vi u)] [] (S0, B) := by
        intro j2
        induction j2 with
        | zero =>
          intro k hk h u hu
          refine q_M_nameHere_51 hK z 1 u B (br_f (by decide) ?_)
          rw [h9, h10, w32_s (z := e - s) (by omega) (by omega)]
          refine br_t (by omega) (br_f (by decide) (mret_i ?_ rfl))
          rw [wmI_t ⟨y, fun x hx => h x (by omega)⟩, if_pos rfl] at he
          exact he
        | succ j2 ih2 =>
          intro k hk h u hu
          have g := lv k (by omega)
          rw [← hu] at g
          have eu : w32 (u + 1) = u + 1 := w32_s (by omega) (by omega)
          have by1 := R_byteAt d B (s + u) (by omega) (by omega)
          rw [t1, if_neg (by omega), t2 (s + u) (by omega) (by omega)] at by1
          refine q_M_nameHere_51 hK z 1 u B (br_f (by decide) ?_)
          rw [h9, h10, w32_s (z := e - s) (by omega) (by omega), w32_s (z := s + u) (by omega) (by omega)]
          refine br_f (by omega) ⟨_, _, by1, ?_⟩
          rw [h57, h58, w32_s (z := M0 57 z + u) (by omega) (by omega), g.1, eu]
          refine mIn_i (by omega) (by omega) (mIn_i (by omega) (by omega) ⟨fun w => ?_, fun w => ?_⟩)
          · refine q_M_nameHere_51 hK z 0 _ B (br_t rfl (br_t rfl (nxt (fun v => w ?_))))
            have g2 := v.2 k (by omega)
            rw [← hu] at g2
            exact g2
          · refine ih2 (k + 1) (by omega) (fun x hx => ?_) (u + 1) (by omega)
            by_cases v : x = k
            · rw [v, ← hu]
              exact Decidable.not_not.mp w
            · exact h x (by omega)
      exact inner (mstrs.getD (mp n) []).length 0 (by omega) (fun x hx => absurd hx (by omega)) 0 rfl
  exact loop 6 0 (by omega) rfl 0 rfl
theorem wm_1 {b : Int → Int} {s e : Int} {i j : Nat} (hi : i < 6) (hj : j < 6) (h : wm b s e i) (g : wm b s e j) : i = j := by
  have l : (mstrs.getD i []).length = (mstrs.getD j []).length := by
    have a := h.1
    have c := g.1
    omega
  have l3 := wl i hi
  have l4 := wl j hj
  have a := h.2 0 (by omega)
  have c := g.2 0 (by omega)
  have f : (mstrs.getD i []).getD 0 0 = (mstrs.getD j []).getD 0 0 := by
    rw [a] at c
    omega
  have all : ∀ i : Nat, i < 6 → ∀ j : Nat, j < 6 → (mstrs.getD i []).length = (mstrs.getD j []).length → (mstrs.getD i []).getD 0 0 = (mstrs.getD j []).getD 0 0 → i = j := by decide +kernel
  exact all i hi j hj l f
theorem nmN_at {b : Int → Int} {s e : Int} {i n : Nat} (hi : i < 6) (hn : n < 6) (hm : mp n = i) (h : wm b s e i) : nmN b s e 6 0 = (n : Int) := by
  have key : ∀ (j k : Nat), k + j = 6 → k ≤ n → nmN b s e j k = (n : Int) := by
    intro j
    induction j with
    | zero =>
      intro k hk hkn
      exact absurd hkn (by omega)
    | succ j ih =>
      intro k hk hkn
      rw [nmN_s]
      by_cases q : k = n
      · rw [q, hm, wmI_t h, if_pos rfl]
      · have inj : ∀ a : Nat, a < 6 → ∀ c : Nat, c < 6 → mp a = mp c → a = c := by decide
        have lt : ∀ a : Nat, a < 6 → mp a < 6 := by decide
        have nw : ¬ wm b s e (mp k) := fun w => q (inj k (by omega) n hn (by rw [hm]; exact wm_1 (lt k (by omega)) hi w h))
        rw [wmI_f nw, if_neg (by decide)]
        exact ih (k + 1) (by omega) (by omega)
  exact key 6 0 (by omega) (by omega)
theorem nmN_no {b : Int → Int} {s e : Int} (h : ∀ i : Nat, i < 6 → ¬ wm b s e i) : nmN b s e 6 0 = -4 := by
  have lt : ∀ a : Nat, a < 6 → mp a < 6 := by decide
  have key : ∀ (j k : Nat), k + j = 6 → nmN b s e j k = -4 := by
    intro j
    induction j with
    | zero =>
      intro k hk
      rfl
    | succ j ih =>
      intro k hk
      rw [nmN_s, wmI_f (h (mp k) (lt k (by omega))), if_neg (by decide)]
      exact ih (k + 1) (by omega)
  exact key 6 0 (by omega)
