/-! PURE PROOFS 11: what the other's pages read -/
theorem rA_ar {kd bk s u v w : Int} (hk : 0 ≤ kd ∧ kd ≤ 3) (hbk : bk = 0 ∨ bk = 1) (hs : s = 0 ↔ ((kd = 1 ∧ bk = 1) ∨ (kd ≠ 1 ∧ bk = 0))) : (if kd = 2 then 0 else if s = 0 then u else v) + (if kd ≤ 1 then 0 else w) = (if bk = 0 then rA kd u v w else rA kd v u w) := by
  unfold rA
  repeat' split
  all_goals omega
theorem R_readsOn (d : Nat) (M : mMem) (p l bk n : Int) (hp : 0 ≤ p ∧ p ≤ 425) (hL : lawOK (pgL M p) n) (hl : 0 ≤ l ∧ l < n) (hn : n ≤ 5) (hbk : bk = 0 ∨ bk = 1) : mR3 (d + 2) 133 [vr 53, vi p, vi l, vi bk] (S0, M) (some (vi (if bk = 0 then rdL (pgL M p) (pg M p) l else rdB (pgL M p) (pg M p) l)), (S0, M)) := by
  refine ⟨⟨by decide, Nat.le_of_ble_eq_true rfl⟩, fun K hK => q_M_readsOn_0 hK p l bk M ?_⟩
  obtain ⟨k0, k1, k2, _⟩ := hL l hl.1 hl.2
  have g0 := pgL_0 M p l
  have g1 := pgL_at M p l 1 (by omega) (by omega)
  have g2 := pgL_at M p l 2 (by omega) (by omega)
  have e0 : w32 (w32 (p + 40) + l) = p + 40 + l := by rw [w32_s (z := p + 40) (by omega) (by omega), w32_s (by omega) (by omega)]
  have e1 : w32 (w32 (p + 45) + l) = p + 40 + 5 * 1 + l := by rw [w32_s (z := p + 45) (by omega) (by omega), w32_s (by omega) (by omega)]; omega
  have e2 : w32 (w32 (p + 50) + l) = p + 40 + 5 * 2 + l := by rw [w32_s (z := p + 50) (by omega) (by omega), w32_s (by omega) (by omega)]; omega
  rw [e0, e1, e2, ← g0, ← g1, ← g2]
  have hR : (if bk = 0 then rdL (pgL M p) (pg M p) l else rdB (pgL M p) (pg M p) l) = if bk = 0 then rA (pgL M p (4 * l)) (cB (pg M p) (pgL M p (4 * l + 1)) (pgL M p (4 * l + 2))) (cB (pg M p) (pgL M p (4 * l + 2)) (pgL M p (4 * l + 1))) (cA (pg M p) (pgL M p (4 * l + 1)) (pgL M p (4 * l + 2))) else rA (pgL M p (4 * l)) (cB (pg M p) (pgL M p (4 * l + 2)) (pgL M p (4 * l + 1))) (cB (pg M p) (pgL M p (4 * l + 1)) (pgL M p (4 * l + 2))) (cA (pg M p) (pgL M p (4 * l + 1)) (pgL M p (4 * l + 2))) := rfl
  rw [hR] at hK
  generalize pgL M p (4 * l) = kd at *
  generalize pgL M p (4 * l + 1) = a at *
  generalize pgL M p (4 * l + 2) = c at *
  have r1 := cB_rng (pg M p) a c
  have r2 := cB_rng (pg M p) c a
  have r3 := cA_rng (pg M p) a c
  have s97 : ∀ s : Int, 0 ≤ s → s ≤ 30 → s + (if kd ≤ 1 then 0 else cA (pg M p) a c) = (if bk = 0 then rA kd (cB (pg M p) a c) (cB (pg M p) c a) (cA (pg M p) a c) else rA kd (cB (pg M p) c a) (cB (pg M p) a c) (cA (pg M p) a c)) → K 97 [(0, vr 53), (1, vi p), (4, vi kd), (5, vi a), (6, vi c)] [vi s] (S0, M) := by
    intro s h0 h1 hr
    refine q_M_readsOn_97 hK p kd a c s M ⟨fun q => ?_, fun q => ⟨_, _, R_aboveOn d M p a c hp, ?_⟩⟩
    · rw [if_pos q] at hr
      rw [w32_s (by omega) (by omega)]
      exact mret_i hr rfl
    · rw [if_neg q] at hr
      rw [w32_s (by omega) (by omega)]
      exact mret_i hr rfl
  have s59 : ∀ s : Int, (if kd = 2 then 0 else if s = 0 then cB (pg M p) a c else cB (pg M p) c a) + (if kd ≤ 1 then 0 else cA (pg M p) a c) = (if bk = 0 then rA kd (cB (pg M p) a c) (cB (pg M p) c a) (cA (pg M p) a c) else rA kd (cB (pg M p) c a) (cB (pg M p) a c) (cA (pg M p) a c)) → K 59 [(0, vr 53), (1, vi p), (4, vi kd), (5, vi a), (6, vi c)] [vi s] (S0, M) := by
    intro s hr
    refine q_M_readsOn_59 hK p kd a c s M ⟨fun q => ⟨fun q2 => ⟨_, _, R_besideOn d M p a c hp, s97 _ r1.1 r1.2 ?_⟩, fun q2 => ⟨_, _, R_besideOn d M p c a hp, s97 _ r2.1 r2.2 ?_⟩⟩, fun q => s97 0 (by omega) (by omega) ?_⟩
    · rw [if_neg q, if_pos q2] at hr
      exact hr
    · rw [if_neg q, if_neg q2] at hr
      exact hr
    · rw [if_pos (Decidable.not_not.mp q)] at hr
      exact hr
  have ar : ∀ s : Int, (s = 0 ↔ ((kd = 1 ∧ bk = 1) ∨ (kd ≠ 1 ∧ bk = 0))) → (if kd = 2 then 0 else if s = 0 then cB (pg M p) a c else cB (pg M p) c a) + (if kd ≤ 1 then 0 else cA (pg M p) a c) = (if bk = 0 then rA kd (cB (pg M p) a c) (cB (pg M p) c a) (cA (pg M p) a c) else rA kd (cB (pg M p) c a) (cB (pg M p) a c) (cA (pg M p) a c)) := by
    intro s hs
    exact rA_ar k0 hbk hs
  refine mIn_i (by omega) (by omega) (mIn_i (by omega) (by omega) (mIn_i (by omega) (by omega) ⟨fun q => ⟨fun q2 => s59 0 (ar 0 ?_), fun q2 => s59 1 (ar 1 ?_)⟩, fun q => ⟨fun q2 => s59 0 (ar 0 ?_), fun q2 => s59 1 (ar 1 ?_)⟩⟩))
  · omega
  · omega
  · omega
  · omega
theorem R_worthOn (d : Nat) (M : mMem) (p : Int) (n : Nat) (hp : 0 ≤ p ∧ p ≤ 425) (hn : M 54 (p + 39) = n) (h5 : n ≤ 5) (hL : lawOK (pgL M p) n) : mR3 (d + 3) 134 [vr 53, vi p] (S0, M) (some (vi (woS (pgL M p) (pg M p) n)), (S0, M)) := by
  refine ⟨⟨by decide, Nat.le_of_ble_eq_true rfl⟩, fun K hK => q_M_worthOn_0 hK p M ?_⟩
  have e9 : w32 (p + 39) = p + 39 := w32_s (by omega) (by omega)
  have loop : ∀ (j k : Nat), k + j = n → K 4 [(0, vr 53), (1, vi p), (2, vi (woS (pgL M p) (pg M p) k)), (3, vi (k : Int))] [] (S0, M) := by
    intro j
    induction j with
    | zero =>
      intro k hk
      refine q_M_worthOn_4 hK p _ _ M ?_
      rw [e9, hn]
      refine mIn_i (by omega) (by omega) (br_t (by omega) (mret_i ?_ rfl))
      rw [show k = n by omega]
    | succ j ih =>
      intro k hk
      refine q_M_worthOn_4 hK p _ _ M ?_
      have e0 : w32 (w32 (p + 55) + (k : Int)) = p + 40 + 5 * 3 + k := by rw [w32_s (z := p + 55) (by omega) (by omega), w32_s (by omega) (by omega)]; omega
      have g3 := pgL_at M p k 3 (by omega) (by omega)
      have e4 : w32 ((k : Int) + 1) = ((k + 1 : Nat) : Int) := by rw [w32_s (by omega) (by omega)]; omega
      rw [e9, hn, e0, ← g3, e4]
      refine mIn_i (by omega) (by omega) (br_f (by omega) (mIn_i (by omega) (by omega) ⟨_, _, R_readsOn d M p k 0 n hp hL (by omega) (by omega) (Or.inl rfl), ?_⟩))
      rw [if_pos rfl]
      have h1 := ih (k + 1) (by omega)
      have r0 := woS_rng (L := pgL M p) (f := pg M p) (n := k) (fun l h0 h1 => hL l h0 (by omega))
      have r1 := hL k (by omega) (by omega)
      have r2 := wr_rng r1.2.2.2 (rdL_rng (pgL M p) (pg M p) k)
      have e2 : w32 (pgL M p (4 * (k : Int) + 3) * rdL (pgL M p) (pg M p) k) = pgL M p (4 * (k : Int) + 3) * rdL (pgL M p) (pg M p) k := w32_s (by omega) (by omega)
      have e3 : w32 (woS (pgL M p) (pg M p) k + pgL M p (4 * (k : Int) + 3) * rdL (pgL M p) (pg M p) k) = woS (pgL M p) (pg M p) (k + 1) := by
        rw [w32_s (by omega) (by omega)]
        rfl
      rw [e2, e3]
      exact h1
  exact loop n 0 (by omega)
theorem R_heldOn (d : Nat) (M : mMem) (p : Int) (n : Nat) (hp : 0 ≤ p ∧ p ≤ 425) (hn : M 54 (p + 39) = n) (h5 : n ≤ 5) (hL : lawOK (pgL M p) n) : mR3 (d + 3) 135 [vr 53, vi p] (S0, M) (some (vi (hbF (fun l => rdL (pgL M p) (pg M p) l) n)), (S0, M)) := by
  refine ⟨⟨by decide, Nat.le_of_ble_eq_true rfl⟩, fun K hK => q_M_heldOn_0 hK p M ?_⟩
  have e9 : w32 (p + 39) = p + 39 := w32_s (by omega) (by omega)
  have loop : ∀ (j k : Nat), k + j = n → K 4 [(0, vr 53), (1, vi p), (2, vi (hbF (fun l => rdL (pgL M p) (pg M p) l) k)), (3, vi (k : Int))] [] (S0, M) := by
    intro j
    induction j with
    | zero =>
      intro k hk
      refine q_M_heldOn_4 hK p _ _ M ?_
      rw [e9, hn]
      refine mIn_i (by omega) (by omega) (br_t (by omega) (mret_i ?_ rfl))
      rw [show k = n by omega]
    | succ j ih =>
      intro k hk
      refine q_M_heldOn_4 hK p _ _ M ?_
      have e4 : w32 ((k : Int) + 1) = ((k + 1 : Nat) : Int) := by rw [w32_s (by omega) (by omega)]; omega
      rw [e9, hn, e4]
      have h1 := ih (k + 1) (by omega)
      have e5 : hbF (fun l => rdL (pgL M p) (pg M p) l) (k + 1) = jor (hbF (fun l => rdL (pgL M p) (pg M p) l) k) (if 0 < rdL (pgL M p) (pg M p) k then jshl 1 k else 0) := rfl
      rw [e5] at h1
      refine mIn_i (by omega) (by omega) (br_f (by omega) ⟨_, _, R_readsOn d M p k 0 n hp hL (by omega) (by omega) (Or.inl rfl), ?_⟩)
      rw [if_pos rfl]
      refine ⟨fun q => ?_, fun q => ?_⟩
      · rw [if_neg (by omega)] at h1
        exact h1
      · rw [if_pos (by omega)] at h1
        exact h1
  exact loop n 0 (by omega)
