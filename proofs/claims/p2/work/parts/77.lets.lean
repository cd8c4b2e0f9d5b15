/-! PURE PROOFS 54: red let run -/
def rmF (f H : Int → Int) (q : Int) : Nat → Int → Int
  | 0 => f
  | i + 1 => if jand (jshr q (i : Nat)) 1 ≠ 1 then rmF f H q i else fup (rmF f H q i) (H (i : Nat) + 6) 1
def rcF (f H : Int → Int) (q : Int) : Nat → Int → Int
  | 0 => f
  | i + 1 => fup (rcF f H q i) (H (i : Nat) + 6) (if jand (jshr q (i : Nat)) 1 ≠ 1 then 0 else 1)
theorem rmF_s (f H : Int → Int) (q : Int) (i : Nat) : rmF f H q (i + 1) = if jand (jshr q (i : Nat)) 1 ≠ 1 then rmF f H q i else fup (rmF f H q i) (H (i : Nat) + 6) 1 := rfl
theorem rcF_s (f H : Int → Int) (q : Int) (i : Nat) : rcF f H q (i + 1) = fup (rcF f H q i) (H (i : Nat) + 6) (if jand (jshr q (i : Nat)) 1 ≠ 1 then 0 else 1) := rfl
theorem rmF_out (f H : Int → Int) (q : Int) : ∀ (n : Nat) (x : Int), (∀ j : Nat, j < n → x ≠ H j + 6) → rmF f H q n x = f x
  | 0, _, _ => rfl
  | n + 1, x, h => by
    rw [rmF_s]
    have ih := rmF_out f H q n x (fun j hj => h j (by omega))
    split
    · exact ih
    · rw [fup_ne _ _ (h n (by omega))]
      exact ih
theorem rc_rm (f g H : Int → Int) (q : Int) (cn : Nat) (h0 : ∀ i : Int, 0 ≤ i → i < cn → f (H i + 6) = 0) (hi : ∀ i j : Int, 0 ≤ i → i < j → j < cn → H i < H j) : ∀ (n : Nat), n ≤ cn → ∀ x : Int, (g x = f x ∨ ∃ j : Nat, j < n ∧ x = H j + 6) → rcF g H q n x = rmF f H q n x
  | 0, _, x, h => by
    rcases h with h | ⟨j, h, _⟩
    · exact h
    · exact absurd h (by omega)
  | n + 1, hn, x, h => by
    rw [rcF_s, rmF_s]
    by_cases z : x = H (n : Nat) + 6
    · rw [z, fup_at]
      by_cases y : jand (jshr q (n : Nat)) 1 ≠ 1
      · rw [if_pos y, if_pos y, rmF_out f H q n _ (fun j hj => ?_), h0 _ (by omega) (by omega)]
        have := hi (j : Nat) (n : Nat) (by omega) (by omega) (by omega)
        omega
      · rw [if_neg y, if_neg y, fup_at]
    · rw [fup_ne _ _ z]
      have ih := rc_rm f g H q cn h0 hi n (by omega) x (by
        rcases h with h | ⟨j, h1, h2⟩
        · exact Or.inl h
        · refine Or.inr ⟨j, ?_, h2⟩
          by_cases y : j = n
          · rw [y] at h2
            exact absurd h2 z
          · omega)
      by_cases y : jand (jshr q (n : Nat)) 1 ≠ 1
      · rw [if_pos y]
        exact ih
      · rw [if_neg y, fup_ne _ _ z]
        exact ih
theorem L_let (d : Nat) {M m : mMem} {H : Int → Int} {cn : Nat} (ok : RuOK M H cn) (h : RuL M m H cn) (q : Int) : mN3 (d + 3) 105 [vr 0, vi q] m (fun m' => TrC m' M (rmF (M 2) H q cn) (M 3) ∧ RuL M m' H cn ∧ ∀ k : Nat, (k < 9 ∨ 17 ≤ k) → m' k = m k) := by
  obtain ⟨h1, ⟨g, h2, h3⟩, h4, h5⟩ := h
  obtain ⟨o1, o2, o3⟩ := ok
  refine mN3_i ⟨by decide, Nat.le_of_ble_eq_true rfl⟩ (fun K hK => q_L_letRun_0 hK q m ?_)
  have loop : ∀ (j i : Nat), i + j = cn → ∀ m' : mMem, TrC m' M (rcF g H q i) (M 3) → (∀ k : Nat, (k < 9 ∨ 17 ≤ k) → m' k = m k) → K 2 [(0, vr 0), (1, vi q), (2, vi (i : Int))] [] (S0, m') := by
    intro j
    induction j with
    | zero =>
      intro i hi m' t1 t2
      have e15 : m' 0 15 = cn := by rw [t2 0 (by omega), h4]
      rw [show i = cn by omega] at t1 ⊢
      have t3 : TrC m' M (rmF (M 2) H q cn) (M 3) := T_cong t1 (fun z a b => by
        refine rc_rm (M 2) g H q cn (fun i a b => (o2 i a b).2) o3 cn (by omega) z ?_
        by_cases y : ∀ j : Nat, j < cn → z ≠ H j + 6
        · exact Or.inl (h3 z a b y)
        · exact Or.inr (Classical.byContradiction (fun w => y (fun j hj e => w ⟨j, hj, e⟩))))
      refine q_L_letRun_2 hK _ _ m' (br_t (by rw [e15]; exact Int.le_refl _) (rN_i ⟨t3, ⟨FrL_row h1 (fun k a _ _ _ _ _ => t2 k a), ⟨_, t3, fun i a b w => rmF_out _ _ _ _ _ w⟩, e15, fun i a b => ?_⟩, t2⟩))
      rw [t2 44 (by omega), h5 i a b]
    | succ j ih =>
      intro i hi m' t1 t2
      have t4 := ih (i + 1) (by omega)
      have e15 : m' 0 15 = cn := by rw [t2 0 (by omega), h4]
      rw [rcF_s] at t4
      generalize rcF g H q i = g' at t1 t4
      have hz : ∃ z : Int, z = (i : Int) := ⟨_, rfl⟩
      obtain ⟨z, hz⟩ := hz
      have ez : ((i + 1 : Nat) : Int) = z + 1 := by omega
      rw [ez, ← hz] at t4
      rw [← hz]
      have zb : 0 ≤ z ∧ z < cn ∧ z < 8 := by omega
      clear hz ez hi ih
      have ew : w32 (z + 1) = z + 1 := w32_s (by omega) (by omega)
      have e44 : m' 44 z = H z := by rw [t2 44 (by omega), h5 _ (by omega) (by omega)]
      have hb := (o2 z (by omega) (by omega)).1
      have w6 : w32 (H z + 6) = H z + 6 := w32_s (by omega) (by omega)
      refine q_L_letRun_2 hK _ _ m' (br_f (by rw [e15]; omega) ?_)
      rw [e44, ew, w6]
      refine mIn_i (by omega) (by omega) ⟨fun y => ⟨_, R_put d m' 9 (by omega) (H z + 6) 0 (by omega) (by omega) t1.1.1.1, ?_⟩, fun y => ⟨_, R_put d m' 9 (by omega) (H z + 6) 1 (by omega) (by omega) t1.1.1.1, ?_⟩⟩
      · rw [if_pos y] at t4
        refine t4 _ (T_put t1 (by omega) (by omega)) (fun k hk => ?_)
        rw [put_ne _ _ _ _ (by omega) (by omega) (by omega), t2 k hk]
      · rw [if_neg y] at t4
        refine t4 _ (T_put t1 (by omega) (by omega)) (fun k hk => ?_)
        rw [put_ne _ _ _ _ (by omega) (by omega) (by omega), t2 k hk]
  exact loop cn 0 (by omega) m h2 (fun _ _ => rfl)
theorem sc_v : ∀ c : Nat, c < 9 → jshl 1 (c : Int) = ((2 ^ c : Nat) : Int) := by decide +kernel
theorem sc_b : ∀ c : Nat, c < 9 → 2 ^ c ≤ 256 := by decide +kernel
/-- what is above, after q ways of running -/
def upS (M : mMem) (H : Int → Int) (cn k : Nat) (v l : Int) : Nat → Int
  | 0 => 0
  | q + 1 => if l ≠ -4 then (if rdL (M 4) (rmF (M 2) H (q : Nat) cn) l ≤ 0 then upS M H cn k v l q else w64 (upS M H cn k v l q + weF v (q : Nat) cn)) else w64 (upS M H cn k v l q + w64 (weF v (q : Nat) cn * woS (M 4) (rmF (M 2) H (q : Nat) cn) k))
theorem upS_s (M : mMem) (H : Int → Int) (cn k : Nat) (v l : Int) (q : Nat) : upS M H cn k v l (q + 1) = if l ≠ -4 then (if rdL (M 4) (rmF (M 2) H (q : Nat) cn) l ≤ 0 then upS M H cn k v l q else w64 (upS M H cn k v l q + weF v (q : Nat) cn)) else w64 (upS M H cn k v l q + w64 (weF v (q : Nat) cn * woS (M 4) (rmF (M 2) H (q : Nat) cn) k)) := rfl
theorem upS_rng {M : mMem} {H : Int → Int} {cn k : Nat} {v l : Int} (hv : 0 ≤ v ∧ v ≤ 10) (h8 : cn ≤ 8) (k5 : k ≤ 5) (hL : lawOK (M 4) k) : ∀ q : Nat, q ≤ 256 → 0 ≤ upS M H cn k v l q ∧ upS M H cn k v l q ≤ 300000000000 * q
  | 0, _ => ⟨Int.le_refl _, by show (0 : Int) ≤ 300000000000 * 0; decide⟩
  | q + 1, hq => by
    have ih := upS_rng hv h8 k5 hL (H := H) (l := l) q (by omega)
    have w := weF_8 hv (q := (q : Nat)) h8
    have r := woS_rng (f := rmF (M 2) H (q : Nat) cn) hL
    rw [upS_s]
    generalize upS M H cn k v l q = u at ih
    generalize weF v (q : Nat) cn = w0 at w
    generalize woS (M 4) (rmF (M 2) H (q : Nat) cn) k = r0 at r
    have a1 : 0 ≤ w0 * r0 := Int.mul_nonneg w.1 r.1
    have a2 : w0 * r0 ≤ 100000000 * 2700 := Int.mul_le_mul w.2 (by omega) r.1 (by decide)
    have e1 : w64 (w0 * r0) = w0 * r0 := w64_id ⟨by omega, by omega⟩
    have e2 : w64 (u + w0 * r0) = u + w0 * r0 := w64_id ⟨by omega, by omega⟩
    have e3 : w64 (u + w0) = u + w0 := w64_id ⟨by omega, by omega⟩
    rw [e1, e2, e3]
    split
    · split <;> omega
    · omega
