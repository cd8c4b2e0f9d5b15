/-! PURE PROOFS 9: charters changed -/
def swp (p q v : Int) : Int := if v = p then q else if v = q then p else v
theorem swp_rng {p q v : Int} (hp : 0 ≤ p ∧ p ≤ 4) (hq : 0 ≤ q ∧ q ≤ 4) (hv : 0 ≤ v ∧ v ≤ 4) : 0 ≤ swp p q v ∧ swp p q v ≤ 4 := by
  unfold swp
  split
  · exact hq
  · split
    · exact hp
    · exact hv
def exM (M : mMem) (b : Nat) (p q : Int) : Nat → mMem
  | 0 => M
  | n + 1 => putM (exM M b p q n) b n (swp p q (exM M b p q n (b + 1) n))
theorem exM_cht {M : mMem} {b : Nat} {p q : Int} (h : Cht M b) (hp : 0 ≤ p ∧ p ≤ 4) (hq : 0 ≤ q ∧ q ≤ 4) : ∀ n : Nat, n ≤ 36 → Cht (exM M b p q n) b
  | 0, _ => h
  | n + 1, hn => by
    have ih := exM_cht h hp hq n (by omega)
    exact put_cht ih (by omega) (swp_rng hp hq (ih.1.1 n (by omega) (by omega)))
theorem exM_ne (M : mMem) (b : Nat) (p q : Int) {k : Nat} (h1 : k ≠ b + 1) (h6 : k ≠ b + 6) (h7 : k ≠ b + 7) : ∀ n : Nat, exM M b p q n k = M k
  | 0 => rfl
  | n + 1 => by
    show putM (exM M b p q n) b n _ k = M k
    rw [put_ne _ _ _ _ h1 h6 h7, exM_ne M b p q h1 h6 h7 n]
theorem exM_cel (M : mMem) (b : Nat) (p q : Int) : ∀ (n : Nat) (i : Int), exM M b p q n (b + 1) i = if 0 ≤ i ∧ i < n then swp p q (M (b + 1) i) else M (b + 1) i
  | 0, i => by
    rw [if_neg (by omega)]
    rfl
  | n + 1, i => by
    show putM (exM M b p q n) b n _ (b + 1) i = _
    rw [put_cel]
    unfold fup
    have e := exM_cel M b p q n
    by_cases h : i = n
    · rw [if_pos h, e, if_neg (by omega), if_pos (by omega), h]
    · rw [if_neg h, e]
      by_cases h2 : 0 ≤ i ∧ i < n
      · rw [if_pos h2, if_pos (by omega)]
      · rw [if_neg h2, if_neg (by omega)]
theorem R_exchange (d : Nat) (M : mMem) (b : Nat) (hb : b = 1 ∨ b = 9) (p q : Int) (hp : 0 ≤ p ∧ p ≤ 4) (hq : 0 ≤ q ∧ q ≤ 4) (h : Cht M b) : mR3 (d + 3) 18 [vr b, vi p, vi q] (S0, M) (none, (S0, exM M b p q 36)) := by
  refine ⟨⟨by decide, Nat.le_of_ble_eq_true rfl⟩, fun K hK => q_C_exchange_0 hK b p q M hb ?_⟩
  have loop : ∀ (j k : Nat), k + j = 36 → K 2 [(0, vr b), (1, vi p), (2, vi q), (3, vi (k : Int))] [] (S0, exM M b p q k) := by
    intro j
    induction j with
    | zero =>
      intro k hk
      refine q_C_exchange_2 hK b _ _ _ _ hb (br_t (by omega) (mret_n ?_))
      rw [show k = 36 by omega]
    | succ j ih =>
      intro k hk
      have h1 := ih (k + 1) (by omega)
      have e4 : w32 ((k : Int) + 1) = ((k + 1 : Nat) : Int) := by rw [w32_s (by omega) (by omega)]; omega
      have hm := exM_cht h hp hq k (by omega)
      have e5 : exM M b p q (k + 1) = putM (exM M b p q k) b k (swp p q (exM M b p q k (b + 1) k)) := rfl
      rw [e5] at h1
      generalize exM M b p q k = m at h1 hm ⊢
      refine q_C_exchange_2 hK b _ _ _ _ hb (br_f (by omega) (mIn_i (by omega) (by omega) ?_))
      rw [e4]
      by_cases c1 : m (b + 1) (k : Int) = p
      · have e6 : swp p q (m (b + 1) (k : Int)) = q := if_pos c1
        rw [e6] at h1
        exact br_f (fun z => z c1) ⟨_, R_put d m b hb k q (by omega) hq hm.1.1, h1⟩
      · refine br_t c1 (mIn_i (by omega) (by omega) ?_)
        by_cases c2 : m (b + 1) (k : Int) = q
        · have e6 : swp p q (m (b + 1) (k : Int)) = p := by unfold swp; rw [if_neg c1, if_pos c2]
          rw [e6] at h1
          exact br_f (fun z => z c2) ⟨_, R_put d m b hb k p (by omega) hp hm.1.1, h1⟩
        · have e6 : swp p q (m (b + 1) (k : Int)) = m (b + 1) (k : Int) := by unfold swp; rw [if_neg c1, if_neg c2]
          have e7 : putM m b k (m (b + 1) (k : Int)) = m := if_pos rfl
          rw [e6, e7] at h1
          exact br_t c2 h1
  exact loop 36 0 (by omega)
def trM (M : mMem) (b : Nat) (y : Int) : Nat → mMem
  | 0 => M
  | n + 1 => putM (putM (trM M b y n) b (6 * n + y) (trM M b y n (b + 1) (6 * (5 - n) + y))) b (6 * (5 - n) + y) (trM M b y n (b + 1) (6 * n + y))
theorem trM_cht {M : mMem} {b : Nat} {y : Int} (h : Cht M b) (hy : 0 ≤ y ∧ y < 6) : ∀ n : Nat, n ≤ 3 → Cht (trM M b y n) b
  | 0, _ => h
  | n + 1, hn => by
    have ih := trM_cht h hy n (by omega)
    exact put_cht (put_cht ih (by omega) (ih.1.1 _ (by omega) (by omega))) (by omega) (ih.1.1 _ (by omega) (by omega))
theorem trM_ne (M : mMem) (b : Nat) (y : Int) {k : Nat} (h1 : k ≠ b + 1) (h6 : k ≠ b + 6) (h7 : k ≠ b + 7) : ∀ n : Nat, trM M b y n k = M k
  | 0 => rfl
  | n + 1 => by
    show putM (putM (trM M b y n) b _ _) b _ _ k = M k
    rw [put_ne _ _ _ _ h1 h6 h7, put_ne _ _ _ _ h1 h6 h7, trM_ne M b y h1 h6 h7 n]
theorem trM_cel (M : mMem) (b : Nat) {y : Int} (hy : 0 ≤ y ∧ y < 6) : ∀ (n : Nat), n ≤ 3 → ∀ i : Int, 0 ≤ i → i < 36 → trM M b y n (b + 1) i = if i % 6 = y ∧ (i / 6 < n ∨ 5 - n < i / 6) then M (b + 1) (30 + 2 * y - i) else M (b + 1) i
  | 0, _, i, h0, h1 => by
    rw [if_neg (by omega)]
    rfl
  | n + 1, hn, i, h0, h1 => by
    show putM (putM (trM M b y n) b _ _) b _ _ (b + 1) i = _
    have e := trM_cel M b hy n (by omega)
    rw [put_cel, put_cel]
    unfold fup
    by_cases c1 : i = 6 * (5 - (n : Int)) + y
    · rw [if_pos c1, e _ (by omega) (by omega), if_neg (by omega), if_pos (by omega)]
      congr 1
      omega
    · rw [if_neg c1]
      by_cases c2 : i = 6 * (n : Int) + y
      · rw [if_pos c2, e _ (by omega) (by omega), if_neg (by omega), if_pos (by omega)]
        congr 1
        omega
      · rw [if_neg c2, e i h0 h1]
        by_cases c3 : i % 6 = y ∧ (i / 6 < n ∨ 5 - n < i / 6)
        · rw [if_pos c3, if_pos (by omega)]
        · rw [if_neg c3, if_neg (by omega)]
theorem R_turnRow (d : Nat) (M : mMem) (b : Nat) (hb : b = 1 ∨ b = 9) (y : Int) (hy : 0 ≤ y ∧ y < 6) (h : Cht M b) : mR3 (d + 3) 19 [vr b, vi y] (S0, M) (none, (S0, trM M b y 3)) := by
  refine ⟨⟨by decide, Nat.le_of_ble_eq_true rfl⟩, fun K hK => q_C_turnRow_0 hK b y M hb ?_⟩
  have loop : ∀ (j k : Nat), k + j = 3 → K 2 [(0, vr b), (1, vi y), (2, vi (k : Int))] [] (S0, trM M b y k) := by
    intro j
    induction j with
    | zero =>
      intro k hk
      refine q_C_turnRow_2 hK b _ _ _ hb (br_t (by omega) (mret_n ?_))
      rw [show k = 3 by omega]
    | succ j ih =>
      intro k hk
      have h1 := ih (k + 1) (by omega)
      have e4 : w32 ((k : Int) + 1) = ((k + 1 : Nat) : Int) := by rw [w32_s (by omega) (by omega)]; omega
      have hm := trM_cht h hy k (by omega)
      have e5 : trM M b y (k + 1) = putM (putM (trM M b y k) b (6 * k + y) (trM M b y k (b + 1) (6 * (5 - k) + y))) b (6 * (5 - k) + y) (trM M b y k (b + 1) (6 * k + y)) := rfl
      rw [e5] at h1
      generalize trM M b y k = m at h1 hm ⊢
      have e6 : w32 (w32 ((k : Int) * 6) + y) = 6 * k + y := by rw [w32_s (z := (k : Int) * 6) (by omega) (by omega), w32_s (by omega) (by omega)]; omega
      have e7 : w32 (w32 (w32 (5 - (k : Int)) * 6) + y) = 6 * (5 - k) + y := by rw [w32_s (z := 5 - (k : Int)) (by omega) (by omega), w32_s (z := (5 - (k : Int)) * 6) (by omega) (by omega), w32_s (by omega) (by omega)]; omega
      refine q_C_turnRow_2 hK b _ _ _ hb (br_f (by omega) ?_)
      rw [e4, e6, e7]
      refine mIn_i (by omega) (by omega) (mIn_i (by omega) (by omega) ⟨_, R_put d m b hb _ _ (by omega) (hm.1.1 _ (by omega) (by omega)) hm.1.1, ⟨_, R_put d _ b hb _ _ (by omega) (hm.1.1 _ (by omega) (by omega)) ?_, h1⟩⟩)
      rw [put_cel]
      exact celOK_up hm.1.1 (hm.1.1 _ (by omega) (by omega))
  exact loop 3 0 (by omega)
def alM (M : mMem) (b : Nat) (kd a c w : Int) : mMem := mupd (mupd (mupd (mupd (mupd M (b + 3) (4 * M b 5) kd) (b + 3) (4 * M b 5 + 1) a) (b + 3) (4 * M b 5 + 2) c) (b + 3) (4 * M b 5 + 3) w) b 5 (M b 5 + 1)
theorem alM_ne (M : mMem) (b : Nat) (kd a c w : Int) {k : Nat} (h : k ≠ b) (h3 : k ≠ b + 3) : alM M b kd a c w k = M k := by
  unfold alM
  rw [mupd_ne _ _ _ h, mupd_ne _ _ _ h3, mupd_ne _ _ _ h3, mupd_ne _ _ _ h3, mupd_ne _ _ _ h3]
theorem alM_0 (M : mMem) (b : Nat) (kd a c w : Int) : alM M b kd a c w b = fup (M b) 5 (M b 5 + 1) := by
  unfold alM
  rw [mupd_at, mupd_ne _ _ _ (by omega), mupd_ne _ _ _ (by omega), mupd_ne _ _ _ (by omega), mupd_ne _ _ _ (by omega)]
theorem alM_3 (M : mMem) (b : Nat) (kd a c w : Int) : alM M b kd a c w (b + 3) = fup (fup (fup (fup (M (b + 3)) (4 * M b 5) kd) (4 * M b 5 + 1) a) (4 * M b 5 + 2) c) (4 * M b 5 + 3) w := by
  unfold alM
  rw [mupd_ne _ _ _ (by omega), mupd_at, mupd_at, mupd_at, mupd_at]
theorem fup_ne (f : Int → Int) {t i : Int} (v : Int) (h : i ≠ t) : fup f t v i = f i := if_neg h
theorem fup_at (f : Int → Int) (t v : Int) : fup f t v t = v := if_pos rfl
theorem R_addLaw (d : Nat) (M : mMem) (b : Nat) (hb : b = 1 ∨ b = 9) (kd a c w : Int) (h : 0 ≤ M b 5 ∧ M b 5 < 5) : mR3 (d + 1) 9 [vr b, vi kd, vi a, vi c, vi w] (S0, M) (none, (S0, alM M b kd a c w)) := by
  refine ⟨⟨by decide, Nat.le_of_ble_eq_true rfl⟩, fun K hK => q_C_addLaw_0 hK b kd a c w M hb ?_⟩
  have e0 : w32 (M b 5 * 4) = 4 * M b 5 := by rw [w32_s (by omega) (by omega)]; omega
  have e1 : w32 (4 * M b 5 + 1) = 4 * M b 5 + 1 := w32_s (by omega) (by omega)
  have e2 : w32 (4 * M b 5 + 2) = 4 * M b 5 + 2 := w32_s (by omega) (by omega)
  have e3 : w32 (4 * M b 5 + 3) = 4 * M b 5 + 3 := w32_s (by omega) (by omega)
  rw [e0, e1, e2, e3]
  refine mIn_i (by omega) (by omega) (mIn_i (by omega) (by omega) (mIn_i (by omega) (by omega) (mIn_i (by omega) (by omega) (mret_n ?_))))
  rw [mupd_ne _ _ _ (show b ≠ b + 3 by omega), mupd_ne _ _ _ (show b ≠ b + 3 by omega), mupd_ne _ _ _ (show b ≠ b + 3 by omega), mupd_ne _ _ _ (show b ≠ b + 3 by omega), w32_s (z := M b 5 + 1) (by omega) (by omega)]
  rfl
theorem alM_cht {M : mMem} {b : Nat} {kd a c w : Int} (h : Cht M b) (h5 : M b 5 < 5) (hk : 0 ≤ kd ∧ kd ≤ 3) (ha : 1 ≤ a ∧ a ≤ 3) (hc : 1 ≤ c ∧ c ≤ 3) (hw : 1 ≤ w ∧ w ≤ 9) : Cht (alM M b kd a c w) b := by
  obtain ⟨t0, l0, l1, p0, p1, sp⟩ := h
  unfold Cht
  rw [alM_ne M b kd a c w (k := b + 2) (by omega) (by omega), alM_ne M b kd a c w (k := b + 4) (by omega) (by omega), alM_ne M b kd a c w (k := b + 5) (by omega) (by omega), alM_0, alM_3, fup_at, fup_ne _ _ (show (6 : Int) ≠ 5 by decide)]
  refine ⟨?_, by omega, ?_, p0, p1, sp⟩
  · refine Tal_of t0 (fun i _ _ => ?_) (fun i _ _ => ?_) (fun i _ _ => ?_)
    · rw [alM_ne M b kd a c w (by omega) (by omega)]
    · rw [alM_ne M b kd a c w (by omega) (by omega)]
    · rw [alM_ne M b kd a c w (by omega) (by omega)]
  · intro l q0 q1
    generalize M b 5 = n at *
    by_cases e : l = n
    · rw [e, fup_at, fup_ne _ _ (show 4 * n + 2 ≠ 4 * n + 3 by omega), fup_at, fup_ne _ _ (show 4 * n + 1 ≠ 4 * n + 3 by omega), fup_ne _ _ (show 4 * n + 1 ≠ 4 * n + 2 by omega), fup_at, fup_ne _ _ (show 4 * n ≠ 4 * n + 3 by omega), fup_ne _ _ (show 4 * n ≠ 4 * n + 2 by omega), fup_ne _ _ (show 4 * n ≠ 4 * n + 1 by omega), fup_at]
      exact ⟨hk, ha, hc, hw⟩
    · have g : ∀ x : Int, 0 ≤ x → x ≤ 3 → fup (fup (fup (fup (M (b + 3)) (4 * n) kd) (4 * n + 1) a) (4 * n + 2) c) (4 * n + 3) w (4 * l + x) = M (b + 3) (4 * l + x) := by
        intro x x0 x1
        rw [fup_ne _ _ (by omega), fup_ne _ _ (by omega), fup_ne _ _ (by omega), fup_ne _ _ (by omega)]
      have g0 := g 0 (by omega) (by omega)
      rw [Int.add_zero] at g0
      rw [g0, g 1 (by omega) (by omega), g 2 (by omega) (by omega), g 3 (by omega) (by omega)]
      exact l1 l q0 (by omega)
def takeM (M : mMem) (b : Nat) (t c : Int) : mMem := mupd (putM M b t c) (b + 2) c (w32 (M (b + 2) c - 1))
theorem takeM_ne (M : mMem) (b : Nat) (t c : Int) {k : Nat} (h1 : k ≠ b + 1) (h2 : k ≠ b + 2) (h6 : k ≠ b + 6) (h7 : k ≠ b + 7) : takeM M b t c k = M k := by
  unfold takeM
  rw [mupd_ne _ _ _ h2, put_ne _ _ _ _ h1 h6 h7]
theorem takeM_1 (M : mMem) (b : Nat) (t c : Int) : takeM M b t c (b + 1) = fup (M (b + 1)) t c := by
  unfold takeM
  rw [mupd_ne _ _ _ (by omega), put_cel]
theorem takeM_2 (M : mMem) (b : Nat) (t c : Int) : takeM M b t c (b + 2) = fup (M (b + 2)) c (w32 (M (b + 2) c - 1)) := by
  unfold takeM
  rw [mupd_at, put_ne _ _ _ _ (by omega) (by omega) (by omega)]
theorem takeM_cht {M : mMem} {b : Nat} {t c : Int} (h : Cht M b) (ht : 0 ≤ t ∧ t < 36) (hc : 1 ≤ c ∧ c ≤ 3) (hs : 0 < M (b + 2) c) : Cht (takeM M b t c) b := by
  have h' := put_cht h ht (show 0 ≤ c ∧ c ≤ 4 by omega)
  have sp := h.2.2.2.2.2
  obtain ⟨t0, l0, l1, p0, p1, _⟩ := h'
  have e2 : takeM M b t c (b + 2) = fup (M (b + 2)) c (w32 (M (b + 2) c - 1)) := takeM_2 M b t c
  have e : ∀ k, k ≠ b + 2 → takeM M b t c k = putM M b t c k := fun k hk => mupd_ne _ _ _ hk
  unfold Cht
  rw [e2, e b (by omega), e (b + 3) (by omega), e (b + 4) (by omega), e (b + 5) (by omega)]
  refine ⟨Tal_of t0 (fun i _ _ => by rw [e _ (by omega)]) (fun i _ _ => by rw [e _ (by omega)]) (fun i _ _ => by rw [e _ (by omega)]), l0, l1, p0, p1, fun c' q0 q1 => ?_⟩
  have h1 := sp c hc.1 hc.2
  unfold fup
  split
  · rw [w32_s (by omega) (by omega)]
    omega
  · exact sp c' q0 q1
def tpM (M : mMem) (b : Nat) (i : Int) : mMem := if M (b + 1) (M (b + 4) i) = 0 ∧ 0 < M (b + 2) (M (b + 5) i) then mupd (takeM M b (M (b + 4) i) (M (b + 5) i)) b 7 (w32 (M b 7 + 1)) else if M b 8 = -4 then mupd M b 8 i else M
theorem R_takePlanned (d : Nat) (M : mMem) (b : Nat) (hb : b = 1 ∨ b = 9) (i : Int) (h : Cht M b) (hi : 0 ≤ i ∧ i < M b 6) : mR3 (d + 4) 8 [vr b, vi i] (S0, M) (none, (S0, tpM M b i)) := by
  obtain ⟨t0, l0, l1, p0, p1, sp⟩ := h
  obtain ⟨q0, q1⟩ := p1 i hi.1 hi.2
  refine ⟨⟨by decide, Nat.le_of_ble_eq_true rfl⟩, fun K hK => q_C_takePlanned_0 hK b i M hb (mIn_i (by omega) (by omega) (mIn_i (by omega) (by omega) ⟨_, _, R_canTake (d + 2) M b hb _ _ q0 q1, ?_⟩))⟩
  by_cases c : M (b + 1) (M (b + 4) i) = 0 ∧ 0 < M (b + 2) (M (b + 5) i)
  · refine br_f (fun z => b2_0.mp z c) (mIn_i (by omega) (by omega) (mIn_i (by omega) (by omega) ⟨_, R_take d M b hb _ _ q0 q1 t0.1, mret_n ?_⟩))
    have e1 : tpM M b i = _ := if_pos c
    have e2 := takeM_ne M b (M (b + 4) i) (M (b + 5) i) (k := b) (by omega) (by omega) (by omega) (by omega)
    rw [e1, ← e2]
    rfl
  · refine br_t (b2_f c) ?_
    have e1 : tpM M b i = _ := if_neg c
    by_cases c2 : M b 8 = -4
    · refine br_f (fun z => z c2) (mret_n ?_)
      rw [e1, if_pos c2]
    · refine br_t c2 (mret_n ?_)
      rw [e1, if_neg c2]
