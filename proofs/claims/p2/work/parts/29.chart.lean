/-! PURE PROOFS 7: what a charter reads -/
theorem jor_0 {x : Int} (h : inR x) : jor x 0 = x := by
  unfold jor
  rw [show Int32.ofInt 0 = 0 from rfl, Int32.or_zero, i_to h]
def rA (kd p q r : Int) : Int := if kd = 0 then p else if kd = 1 then q else if kd = 2 then r else p + r
theorem rA_rng {kd p q r : Int} (hp : 0 ≤ p ∧ p ≤ 30) (hq : 0 ≤ q ∧ q ≤ 30) (hr : 0 ≤ r ∧ r ≤ 30) : 0 ≤ rA kd p q r ∧ rA kd p q r ≤ 60 := by
  unfold rA
  split
  · omega
  · split
    · omega
    · split <;> omega
def rdL (L f : Int → Int) (l : Int) : Int := rA (L (4 * l)) (cB f (L (4 * l + 1)) (L (4 * l + 2))) (cB f (L (4 * l + 2)) (L (4 * l + 1))) (cA f (L (4 * l + 1)) (L (4 * l + 2)))
def rdB (L f : Int → Int) (l : Int) : Int := rA (L (4 * l)) (cB f (L (4 * l + 2)) (L (4 * l + 1))) (cB f (L (4 * l + 1)) (L (4 * l + 2))) (cA f (L (4 * l + 1)) (L (4 * l + 2)))
theorem rdL_rng (L f : Int → Int) (l : Int) : 0 ≤ rdL L f l ∧ rdL L f l ≤ 60 := rA_rng (cB_rng _ _ _) (cB_rng _ _ _) (cA_rng _ _ _)
theorem rdB_rng (L f : Int → Int) (l : Int) : 0 ≤ rdB L f l ∧ rdB L f l ≤ 60 := rA_rng (cB_rng _ _ _) (cB_rng _ _ _) (cA_rng _ _ _)
def lawOK (L : Int → Int) (n : Int) : Prop := ∀ l, 0 ≤ l → l < n → (0 ≤ L (4 * l) ∧ L (4 * l) ≤ 3) ∧ (1 ≤ L (4 * l + 1) ∧ L (4 * l + 1) ≤ 3) ∧ (1 ≤ L (4 * l + 2) ∧ L (4 * l + 2) ≤ 3) ∧ 1 ≤ L (4 * l + 3) ∧ L (4 * l + 3) ≤ 9
def woS (L f : Int → Int) (n : Nat) : Int := sm (fun l => L (4 * (l : Int) + 3) * rdL L f l) n
theorem wr_rng {w r : Int} (hw : 1 ≤ w ∧ w ≤ 9) (hr : 0 ≤ r ∧ r ≤ 60) : 0 ≤ w * r ∧ w * r ≤ 540 := by
  have h : w = 1 ∨ w = 2 ∨ w = 3 ∨ w = 4 ∨ w = 5 ∨ w = 6 ∨ w = 7 ∨ w = 8 ∨ w = 9 := by omega
  rcases h with h | h | h | h | h | h | h | h | h <;> rw [h] <;> omega
theorem woS_rng {L f : Int → Int} : ∀ {n : Nat}, lawOK L n → 0 ≤ woS L f n ∧ woS L f n ≤ 540 * n
  | 0, _ => by
    have h : woS L f 0 = 0 := rfl
    omega
  | n + 1, h => by
    have h1 := woS_rng (L := L) (f := f) (n := n) (fun l h0 h1 => h l h0 (by omega))
    have h2 := h n (by omega) (by omega)
    have h3 := wr_rng h2.2.2.2 (rdL_rng L f n)
    have h4 : woS L f (n + 1) = woS L f n + L (4 * (n : Int) + 3) * rdL L f n := rfl
    omega
def hbF (g : Nat → Int) : Nat → Int
  | 0 => 0
  | n + 1 => jor (hbF g n) (if 0 < g n then jshl 1 n else 0)
theorem hbF_in (g : Nat → Int) : ∀ n : Nat, inR (hbF g n)
  | 0 => inR_0
  | _ + 1 => jor_in _ _
theorem hbF_cong {g h : Nat → Int} : ∀ {n : Nat}, (∀ k, k < n → g k = h k) → hbF g n = hbF h n
  | 0, _ => rfl
  | n + 1, q => by
    show jor (hbF g n) (if 0 < g n then jshl 1 n else 0) = jor (hbF h n) (if 0 < h n then jshl 1 n else 0)
    rw [hbF_cong (fun k hk => q k (by omega)), q n (by omega)]
def cO (f : Int → Int) (s : Int) (n : Nat) : Int := sm (fun k => b2 (f (k : Nat) = s)) n
theorem cO_rng (f : Int → Int) (s : Int) : ∀ n : Nat, 0 ≤ cO f s n ∧ cO f s n ≤ n
  | 0 => by
    have h : cO f s 0 = 0 := rfl
    omega
  | n + 1 => by
    have h1 := cO_rng f s n
    have h2 := b2_le (f (n : Nat) = s)
    have h4 : cO f s (n + 1) = cO f s n + b2 (f (n : Nat) = s) := rfl
    omega
section
variable (d : Nat) (M : mMem)
theorem R_canTake (b : Nat) (hb : b = 1 ∨ b = 9) (t c : Int) (ht : 0 ≤ t ∧ t < 36) (hc : 1 ≤ c ∧ c ≤ 3) : mR3 (d + 1) 5 [vr b, vi t, vi c] (S0, M) (some (vi (b2 (M (b + 1) t = 0 ∧ 0 < M (b + 2) c))), (S0, M)) := by
  refine ⟨⟨by decide, Nat.le_of_ble_eq_true rfl⟩, fun K hK => q_C_canTake_0 hK b t c M hb (mIn_i ht.1 (by omega) ⟨fun h => ?_, fun h => mIn_i (by omega) (by omega) ⟨fun h2 => ?_, fun h2 => ?_⟩⟩)⟩
  · exact mret_i (b2_f (by omega)).symm rfl
  · exact mret_i (b2_f (by omega)).symm rfl
  · exact mret_i (b2_t (by omega)).symm rfl
theorem R_take (b : Nat) (hb : b = 1 ∨ b = 9) (t c : Int) (ht : 0 ≤ t ∧ t < 36) (hc : 1 ≤ c ∧ c ≤ 3) (hf : celOK (M (b + 1))) : mR3 (d + 3) 6 [vr b, vi t, vi c] (S0, M) (none, (S0, mupd (putM M b t c) (b + 2) c (w32 (M (b + 2) c - 1)))) := by
  refine ⟨⟨by decide, Nat.le_of_ble_eq_true rfl⟩, fun K hK => q_C_take_0 hK b t c M hb ⟨_, R_put d M b hb t c ht (by omega) hf, mIn_i (by omega) (by omega) (mIn_i (by omega) (by omega) (mret_n ?_))⟩⟩
  rw [put_ne M b t c (show b + 2 ≠ b + 1 by omega) (by omega) (by omega)]
theorem R_takeBack (b : Nat) (hb : b = 1 ∨ b = 9) (t : Int) (ht : 0 ≤ t ∧ t < 36) (hf : celOK (M (b + 1))) (hc : M (b + 1) t ≤ 3) : mR3 (d + 3) 7 [vr b, vi t] (S0, M) (none, (S0, putM (mupd M (b + 2) (M (b + 1) t) (w32 (M (b + 2) (M (b + 1) t) + 1))) b t 0)) := by
  have h0 := hf t ht.1 ht.2
  refine ⟨⟨by decide, Nat.le_of_ble_eq_true rfl⟩, fun K hK => q_C_takeBack_0 hK b t M hb (mIn_i ht.1 (by omega) (mIn_i (by omega) (by omega) (mIn_i (by omega) (by omega) ⟨_, R_put d _ b hb t 0 ht (by omega) ?_, mret_n rfl⟩)))⟩
  rw [mupd_ne _ _ _ (show b + 1 ≠ b + 2 by omega)]
  exact hf
theorem R_readsAs (kd p q r : Int) (hk : 0 ≤ kd) (hp : 0 ≤ p ∧ p ≤ 30) (hr : 0 ≤ r ∧ r ≤ 30) : mR3 (d + 1) 12 [vi kd, vi p, vi q, vi r] (S0, M) (some (vi (rA kd p q r)), (S0, M)) := by
  refine ⟨⟨by decide, Nat.le_of_ble_eq_true rfl⟩, fun K hK => q_C_readsAs_0 hK kd p q r M ⟨⟨fun h => ?_, fun h => ?_, fun h => ?_, trivial⟩, fun h => ?_⟩⟩
  · refine mret_i ?_ rfl
    unfold rA
    rw [if_pos (by omega)]
  · refine mret_i ?_ rfl
    unfold rA
    rw [if_neg (by omega), if_pos (by omega)]
  · refine mret_i ?_ rfl
    unfold rA
    rw [if_neg (by omega), if_neg (by omega), if_pos (by omega)]
  · refine mret_i ?_ rfl
    unfold rA
    rw [if_neg (by omega), if_neg (by omega), if_neg (by omega), w32_s (by omega) (by omega)]
theorem R_reads (b : Nat) (hb : b = 1 ∨ b = 9) (l n : Int) (hT : Tal M b) (hL : lawOK (M (b + 3)) n) (hl : 0 ≤ l ∧ l < n) (hn : n ≤ 5) : mR3 (d + 2) 10 [vr b, vi l] (S0, M) (some (vi (rdL (M (b + 3)) (M (b + 1)) l)), (S0, M)) := by
  refine ⟨⟨by decide, Nat.le_of_ble_eq_true rfl⟩, fun K hK => q_C_reads_0 hK b l M hb ?_⟩
  obtain ⟨k0, k1, k2, _⟩ := hL l hl.1 hl.2
  have e0 : w32 (l * 4) = 4 * l := by rw [w32_s (by omega) (by omega)]; omega
  have e1 : w32 (w32 (l * 4) + 1) = 4 * l + 1 := by rw [e0, w32_s (by omega) (by omega)]
  have e2 : w32 (w32 (l * 4) + 2) = 4 * l + 2 := by rw [e0, w32_s (by omega) (by omega)]
  rw [e1, e2, e0]
  have e3 := ix5 (p := M (b + 3) (4 * l + 1)) (q := M (b + 3) (4 * l + 2)) (by omega) (by omega)
  have e4 := ix5 (p := M (b + 3) (4 * l + 2)) (q := M (b + 3) (4 * l + 1)) (by omega) (by omega)
  rw [e3, e4]
  have v1 := hT.2.1 (M (b + 3) (4 * l + 1)) (M (b + 3) (4 * l + 2)) (by omega) (by omega)
  have v2 := hT.2.1 (M (b + 3) (4 * l + 2)) (M (b + 3) (4 * l + 1)) (by omega) (by omega)
  have v3 := hT.2.2 (M (b + 3) (4 * l + 1)) (M (b + 3) (4 * l + 2)) (by omega) (by omega)
  rw [v1, v2, v3]
  exact mIn_i (by omega) (by omega) (mIn_i (by omega) (by omega) (mIn_i (by omega) (by omega) (mIn_i (by omega) (by omega) (mIn_i (by omega) (by omega) (mIn_i (by omega) (by omega) ⟨_, _, R_readsAs d M _ _ _ _ (by omega) (cB_rng _ _ _) (cA_rng _ _ _), mret_i rfl rfl⟩)))))
theorem R_readsByBack (b : Nat) (hb : b = 1 ∨ b = 9) (l n : Int) (hT : Tal M b) (hL : lawOK (M (b + 3)) n) (hl : 0 ≤ l ∧ l < n) (hn : n ≤ 5) : mR3 (d + 2) 11 [vr b, vi l] (S0, M) (some (vi (rdB (M (b + 3)) (M (b + 1)) l)), (S0, M)) := by
  refine ⟨⟨by decide, Nat.le_of_ble_eq_true rfl⟩, fun K hK => q_C_readsByBack_0 hK b l M hb ?_⟩
  obtain ⟨k0, k1, k2, _⟩ := hL l hl.1 hl.2
  have e0 : w32 (l * 4) = 4 * l := by rw [w32_s (by omega) (by omega)]; omega
  have e1 : w32 (w32 (l * 4) + 1) = 4 * l + 1 := by rw [e0, w32_s (by omega) (by omega)]
  have e2 : w32 (w32 (l * 4) + 2) = 4 * l + 2 := by rw [e0, w32_s (by omega) (by omega)]
  rw [e1, e2, e0]
  have e3 := ix5 (p := M (b + 3) (4 * l + 1)) (q := M (b + 3) (4 * l + 2)) (by omega) (by omega)
  have e4 := ix5 (p := M (b + 3) (4 * l + 2)) (q := M (b + 3) (4 * l + 1)) (by omega) (by omega)
  rw [e3, e4]
  have v1 := hT.2.1 (M (b + 3) (4 * l + 1)) (M (b + 3) (4 * l + 2)) (by omega) (by omega)
  have v2 := hT.2.1 (M (b + 3) (4 * l + 2)) (M (b + 3) (4 * l + 1)) (by omega) (by omega)
  have v3 := hT.2.2 (M (b + 3) (4 * l + 1)) (M (b + 3) (4 * l + 2)) (by omega) (by omega)
  rw [v1, v2, v3]
  exact mIn_i (by omega) (by omega) (mIn_i (by omega) (by omega) (mIn_i (by omega) (by omega) (mIn_i (by omega) (by omega) (mIn_i (by omega) (by omega) (mIn_i (by omega) (by omega) ⟨_, _, R_readsAs d M _ _ _ _ (by omega) (cB_rng _ _ _) (cA_rng _ _ _), mret_i rfl rfl⟩)))))
theorem R_worth (b : Nat) (hb : b = 1 ∨ b = 9) (n : Nat) (hn : M b 5 = n) (h5 : n ≤ 5) (hT : Tal M b) (hL : lawOK (M (b + 3)) n) : mR3 (d + 3) 13 [vr b] (S0, M) (some (vi (woS (M (b + 3)) (M (b + 1)) n)), (S0, M)) := by
  refine ⟨⟨by decide, Nat.le_of_ble_eq_true rfl⟩, fun K hK => q_C_worth_0 hK b M hb ?_⟩
  have loop : ∀ (j k : Nat), k + j = n → K 4 [(0, vr b), (1, vi (woS (M (b + 3)) (M (b + 1)) k)), (2, vi (k : Int))] [] (S0, M) := by
    intro j
    induction j with
    | zero =>
      intro k hk
      have e : k = n := by omega
      have e1 : M b 5 ≤ (k : Int) := by omega
      refine q_C_worth_4 hK b (woS (M (b + 3)) (M (b + 1)) k) (k : Int) M hb ?_
      exact br_t e1 (mret_i (by rw [e]) rfl)
    | succ j ih =>
      intro k hk
      refine q_C_worth_4 hK b _ _ M hb ⟨fun h => absurd h (by omega), fun _ => ?_⟩
      have e0 : w32 ((k : Int) * 4) = 4 * k := by rw [w32_s (by omega) (by omega)]; omega
      have e1 : w32 (w32 ((k : Int) * 4) + 3) = 4 * k + 3 := by rw [e0, w32_s (by omega) (by omega)]
      rw [e1]
      refine mIn_i (by omega) (by omega) ⟨_, _, R_reads d M b hb k n hT hL (by omega) (by omega), ?_⟩
      have h1 := ih (k + 1) (by omega)
      have r0 := woS_rng (L := M (b + 3)) (f := M (b + 1)) (n := k) (fun l h0 h1 => hL l h0 (by omega))
      have r1 := hL k (by omega) (by omega)
      have r2 := wr_rng r1.2.2.2 (rdL_rng (M (b + 3)) (M (b + 1)) k)
      have e2 : w32 (M (b + 3) (4 * (k : Int) + 3) * rdL (M (b + 3)) (M (b + 1)) k) = M (b + 3) (4 * (k : Int) + 3) * rdL (M (b + 3)) (M (b + 1)) k := w32_s (by omega) (by omega)
      have e3 : w32 (woS (M (b + 3)) (M (b + 1)) k + M (b + 3) (4 * (k : Int) + 3) * rdL (M (b + 3)) (M (b + 1)) k) = woS (M (b + 3)) (M (b + 1)) (k + 1) := by
        rw [w32_s (by omega) (by omega)]
        rfl
      have e4 : w32 ((k : Int) + 1) = ((k + 1 : Nat) : Int) := by rw [w32_s (by omega) (by omega)]; omega
      rw [e2, e3, e4]
      exact h1
  exact loop n 0 (by omega)
theorem R_heldBits (b : Nat) (hb : b = 1 ∨ b = 9) (n : Nat) (hn : M b 5 = n) (h5 : n ≤ 5) (hT : Tal M b) (hL : lawOK (M (b + 3)) n) : mR3 (d + 3) 14 [vr b] (S0, M) (some (vi (hbF (fun l => rdL (M (b + 3)) (M (b + 1)) l) n)), (S0, M)) := by
  refine ⟨⟨by decide, Nat.le_of_ble_eq_true rfl⟩, fun K hK => q_C_heldBits_0 hK b M hb ?_⟩
  have loop : ∀ (j k : Nat), k + j = n → K 4 [(0, vr b), (1, vi (hbF (fun l => rdL (M (b + 3)) (M (b + 1)) l) k)), (2, vi (k : Int))] [] (S0, M) := by
    intro j
    induction j with
    | zero =>
      intro k hk
      refine q_C_heldBits_4 hK b _ _ M hb ⟨fun _ => mret_i (by rw [show k = n by omega]) rfl, fun h => absurd (show M b 5 ≤ (k : Int) by omega) h⟩
    | succ j ih =>
      intro k hk
      refine q_C_heldBits_4 hK b _ _ M hb ⟨fun h => absurd h (by omega), fun _ => ⟨_, _, R_reads d M b hb k n hT hL (by omega) (by omega), fun h => ?_, fun h => ?_⟩⟩
      all_goals
        have h1 := ih (k + 1) (by omega)
        have e4 : w32 ((k : Int) + 1) = ((k + 1 : Nat) : Int) := by rw [w32_s (by omega) (by omega)]; omega
        rw [e4]
      · have e5 : hbF (fun l => rdL (M (b + 3)) (M (b + 1)) l) (k + 1) = hbF (fun l => rdL (M (b + 3)) (M (b + 1)) l) k := by
          show jor (hbF (fun l => rdL (M (b + 3)) (M (b + 1)) l) k) (if 0 < rdL (M (b + 3)) (M (b + 1)) k then jshl 1 k else 0) = _
          rw [if_neg (by omega), jor_0 (hbF_in _ _)]
        rw [e5] at h1
        exact h1
      · have e5 : hbF (fun l => rdL (M (b + 3)) (M (b + 1)) l) (k + 1) = jor (hbF (fun l => rdL (M (b + 3)) (M (b + 1)) l) k) (jshl 1 k) := by
          show jor (hbF (fun l => rdL (M (b + 3)) (M (b + 1)) l) k) (if 0 < rdL (M (b + 3)) (M (b + 1)) k then jshl 1 k else 0) = _
          rw [if_pos (by omega)]
        rw [e5] at h1
        exact h1
  exact loop n 0 (by omega)
theorem R_cellsOf (b : Nat) (hb : b = 1 ∨ b = 9) (s : Int) : mR3 (d + 1) 15 [vr b, vi s] (S0, M) (some (vi (cO (M (b + 1)) s 36)), (S0, M)) := by
  refine ⟨⟨by decide, Nat.le_of_ble_eq_true rfl⟩, fun K hK => q_C_cellsOf_0 hK b s M hb ?_⟩
  have loop : ∀ (j k : Nat), k + j = 36 → K 4 [(0, vr b), (1, vi s), (2, vi (cO (M (b + 1)) s k)), (3, vi (k : Int))] [] (S0, M) := by
    intro j
    induction j with
    | zero =>
      intro k hk
      refine q_C_cellsOf_4 hK b _ _ _ M hb ⟨fun _ => mret_i (by rw [show k = 36 by omega]) rfl, fun h => absurd (show 36 ≤ (k : Int) by omega) h⟩
    | succ j ih =>
      intro k hk
      have h1 := ih (k + 1) (by omega)
      have e4 : w32 ((k : Int) + 1) = ((k + 1 : Nat) : Int) := by rw [w32_s (by omega) (by omega)]; omega
      have r0 := cO_rng (M (b + 1)) s k
      have e5 : cO (M (b + 1)) s (k + 1) = cO (M (b + 1)) s k + b2 (M (b + 1) (k : Nat) = s) := rfl
      refine q_C_cellsOf_4 hK b _ _ _ M hb ⟨fun h => absurd h (by omega), fun _ => mIn_i (by omega) (by omega) ⟨fun h => ?_, fun h => ?_⟩⟩
      · rw [e5, b2_f h, Int.add_zero] at h1
        rw [e4]
        exact h1
      · rw [e5, b2_t (by omega)] at h1
        rw [e4, w32_s (z := cO (M (b + 1)) s k + 1) (by omega) (by omega)]
        exact h1
  exact loop 36 0 (by omega)
theorem R_canRun (b : Nat) (hb : b = 1 ∨ b = 9) (t : Int) (ht : 0 ≤ t ∧ t < 36) : mR3 (d + 1) 16 [vr b, vi t] (S0, M) (some (vi (b2 (M (b + 1) t = 1 ∧ t < 30 ∧ M (b + 1) (t + 6) = 0))), (S0, M)) := by
  refine ⟨⟨by decide, Nat.le_of_ble_eq_true rfl⟩, fun K hK => q_C_canRun_0 hK b t M hb ?_⟩
  have d1 : jdiv t 6 = t / 6 := jdiv_nn ht.1 (by omega) (by omega)
  have e1 : w32 (t + 6) = t + 6 := w32_s (by omega) (by omega)
  rw [d1, e1]
  refine mIn_i ht.1 (by omega) ⟨fun h => ?_, fun h => ⟨fun h2 => ?_, fun h2 => mIn_i (by omega) (by omega) ⟨fun h3 => ?_, fun h3 => ?_⟩⟩⟩
  · exact mret_i (b2_f (by omega)).symm rfl
  · exact mret_i (b2_f (by omega)).symm rfl
  · exact mret_i (b2_f (by omega)).symm rfl
  · exact mret_i (b2_t (by omega)).symm rfl
theorem R_runningCells (b : Nat) (hb : b = 1 ∨ b = 9) (hT : Tal M b) : mR3 (d + 1) 17 [vr b] (S0, M) (some (vi (cB (M (b + 1)) 1 0)), (S0, M)) := by
  refine ⟨⟨by decide, Nat.le_of_ble_eq_true rfl⟩, fun K hK => q_C_runningCells_0 hK b M hb (mret_i ?_ rfl)⟩
  exact hT.2.1 1 0 (by omega) (by omega)
end
