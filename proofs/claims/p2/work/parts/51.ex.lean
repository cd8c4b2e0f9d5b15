/-! PURE PROOFS 29: a run with a promise on its end -/
def Ex1 {ι : Type} (Q : ι → Prop) (p : ι → Prop) : Prop := ∃ i, Q i ∧ p i
section
variable {ι : Type} {Q : ι → Prop}
theorem mI_ex {st : List mVal} {k : Int → List mVal → Prop} {k' : ι → Int → List mVal → Prop} (h : ∀ x r, k x r → Ex1 Q fun i => k' i x r) : mI st k → Ex1 Q fun i => mI st (k' i) := by
  unfold mI; split <;> first | exact h _ _ | exact False.elim
theorem mL_ex {st : List mVal} {k : Int → List mVal → Prop} {k' : ι → Int → List mVal → Prop} (h : ∀ x r, k x r → Ex1 Q fun i => k' i x r) : mL st k → Ex1 Q fun i => mL st (k' i) := by
  unfold mL; split <;> first | exact h _ _ | exact False.elim
theorem mR_ex {st : List mVal} {k : Nat → List mVal → Prop} {k' : ι → Nat → List mVal → Prop} (h : ∀ x r, k x r → Ex1 Q fun i => k' i x r) : mR st k → Ex1 Q fun i => mR st (k' i) := by
  unfold mR; split <;> first | exact h _ _ | exact False.elim
theorem mA_ex {st : List mVal} {k : mVal → List mVal → Prop} {k' : ι → mVal → List mVal → Prop} (h : ∀ x r, k x r → Ex1 Q fun i => k' i x r) : mA st k → Ex1 Q fun i => mA st (k' i) := by
  unfold mA; split <;> first | exact h _ _ | exact False.elim
theorem lgetI_ex {lv : mLV} {i : Nat} {k : Int → Prop} {k' : ι → Int → Prop} (h : ∀ x, k x → Ex1 Q fun j => k' j x) : lgetI lv i k → Ex1 Q fun j => lgetI lv i (k' j) := by
  unfold lgetI; split <;> first | exact h _ | exact False.elim
theorem lgetL_ex {lv : mLV} {i : Nat} {k : Int → Prop} {k' : ι → Int → Prop} (h : ∀ x, k x → Ex1 Q fun j => k' j x) : lgetL lv i k → Ex1 Q fun j => lgetL lv i (k' j) := by
  unfold lgetL; split <;> first | exact h _ | exact False.elim
theorem lgetA_ex {lv : mLV} {i : Nat} {k : Nat ⊕ Nat → Prop} {k' : ι → Nat ⊕ Nat → Prop} (h : ∀ x, k x → Ex1 Q fun j => k' j x) : lgetA lv i k → Ex1 Q fun j => lgetA lv i (k' j) := by
  unfold lgetA; split <;> first | exact h _ | exact False.elim
theorem mB_ex {b : Bool} {p : Prop} {p' : ι → Prop} (h : p → Ex1 Q p') : mB b p → Ex1 Q fun i => mB b (p' i) := by cases b <;> first | exact h | exact False.elim
theorem mIn_ex {i : Int} {n : Nat} {p : Prop} {p' : ι → Prop} (h : p → Ex1 Q p') : mIn i n p → Ex1 Q fun j => mIn i n (p' j) := fun q => by
  obtain ⟨j, a, b⟩ := h (mIn_e q).2
  exact ⟨j, a, mIn_i (mIn_e q).1.1 (mIn_e q).1.2 b⟩
theorem mBo_ex {v : Int} {p : Prop} {p' : ι → Prop} (h : p → Ex1 Q p') : mBo v p → Ex1 Q fun j => mBo v (p' j) := fun q => by
  obtain ⟨j, a, b⟩ := h (mBo_e q).2
  exact ⟨j, a, mBo_i (mBo_e q).1 b⟩
theorem mTag_ex {sh : mSh} {k t : Nat} {c : Nat → Prop} {c' : ι → Nat → Prop} (h : ∀ n, c n → Ex1 Q fun i => c' i n) : mTag sh k t c → Ex1 Q fun i => mTag sh k t (c' i) := by
  unfold mTag; split
  · rename_i t' n _
    cases (t' == t) <;> first | exact h _ | exact False.elim
  · exact False.elim
theorem mRef_ex {sh : mSh} {k j : Nat} {c : Nat → Prop} {c' : ι → Nat → Prop} (h : ∀ n, c n → Ex1 Q fun i => c' i n) : mRef sh k j c → Ex1 Q fun i => mRef sh k j (c' i) := by
  unfold mRef; split <;> first | exact h _ | exact False.elim
theorem and_ex {a b : Prop} {b' : ι → Prop} (h : b → Ex1 Q b') : a ∧ b → Ex1 Q fun i => a ∧ b' i := fun q => by
  obtain ⟨j, x, y⟩ := h q.2
  exact ⟨j, x, q.1, y⟩
theorem br_ex {c a b : Prop} {a' b' : ι → Prop} (h0 : a → Ex1 Q a') (h : b → Ex1 Q b') : (c → a) ∧ (¬ c → b) → Ex1 Q fun i => (c → a' i) ∧ (¬ c → b' i) := fun q => by
  by_cases z : c
  · obtain ⟨j, x, y⟩ := h0 (q.1 z)
    exact ⟨j, x, fun _ => y, fun w => absurd z w⟩
  · obtain ⟨j, x, y⟩ := h (q.2 z)
    exact ⟨j, x, fun w => absurd w z, fun _ => y⟩
theorem ex_ex {α : Type} {p : α → Prop} {p' : ι → α → Prop} (h : ∀ x, p x → Ex1 Q fun i => p' i x) : (∃ x, p x) → Ex1 Q fun i => ∃ x, p' i x := fun ⟨x, q⟩ => by
  obtain ⟨j, a, b⟩ := h x q
  exact ⟨j, a, x, b⟩
theorem bif_ex {b : Bool} {p q : Prop} {p' q' : ι → Prop} (h : p → Ex1 Q p') (h2 : q → Ex1 Q q') : (bif b then p else q) → Ex1 Q fun i => (bif b then p' i else q' i) := by cases b <;> first | exact h | exact h2
theorem swP_o {k : Nat → Prop} {x : Int} : ∀ (ts : List Nat) (j : Nat), (x < j ∨ (j : Int) + ts.length ≤ x) → swP k x j ts
  | [], _, _ => trivial
  | t :: ts, j, h => by
    have e : (((t :: ts).length : Nat) : Int) = (ts.length : Int) + 1 := by simp
    exact ⟨fun q => absurd h (by omega), swP_o ts (j + 1) (by omega)⟩
theorem swP_ex {k : Nat → Prop} {k' : ι → Nat → Prop} (h : ∀ t, k t → Ex1 Q fun i => k' i t) {x : Int} : ∀ (ts : List Nat) (j : Nat), (j : Int) ≤ x → x < (j : Int) + ts.length → swP k x j ts → Ex1 Q fun i => swP (k' i) x j ts
  | [], j, h0, h1 => by
    have e : ((([] : List Nat).length : Nat) : Int) = 0 := rfl
    exact absurd h1 (by omega)
  | t :: ts, j, h0, h1 => fun q => by
    have e : (((t :: ts).length : Nat) : Int) = (ts.length : Int) + 1 := by simp
    by_cases z : x = (j : Int)
    · obtain ⟨i, a, b⟩ := h t (q.1 z)
      exact ⟨i, a, fun _ => b, swP_o ts (j + 1) (by omega)⟩
    · obtain ⟨i, a, b⟩ := swP_ex h ts (j + 1) (by omega) (by omega) q.2
      exact ⟨i, a, fun w => absurd w z, b⟩
theorem sw_ex {k : Nat → Prop} {k' : ι → Nat → Prop} {a : Prop} {a' : ι → Prop} (h : ∀ t, k t → Ex1 Q fun i => k' i t) (h2 : a → Ex1 Q a') {x : Int} {ts : List Nat} : swP k x 0 ts ∧ ((x < 0 ∨ (ts.length : Int) ≤ x) → a) → Ex1 Q fun i => swP (k' i) x 0 ts ∧ ((x < 0 ∨ (ts.length : Int) ≤ x) → a' i) := fun q => by
  by_cases z : x < 0 ∨ (ts.length : Int) ≤ x
  · obtain ⟨i, c, d⟩ := h2 (q.2 z)
    exact ⟨i, c, swP_o ts 0 (by omega), fun _ => d⟩
  · obtain ⟨i, c, d⟩ := swP_ex h ts 0 (by omega) (by omega) q.1
    exact ⟨i, c, d, fun w => absurd w z⟩
variable {cal : mCal} {lb : List (Nat × List Nat)} {lim : Nat × Nat} {scr : Nat × (Nat → Int)} {ret : Option mVal → mHp → Prop} {ret' : ι → Option mVal → mHp → Prop} {K : Nat → mLV → List mVal → mHp → Prop} {K' : ι → Nat → mLV → List mVal → mHp → Prop}
set_option maxHeartbeats 4000000 in
theorem mrun_ex (hr : ∀ v h, ret v h → Ex1 Q fun i => ret' i v h) (hk : ∀ t lv st h, K t lv st h → Ex1 Q fun i => K' i t lv st h) : ∀ (rows : List mRow) (pc : Nat) (lv : mLV) (st : List mVal) (h : mHp), mrun cal lb lim scr ret K rows pc lv st h → Ex1 Q fun i => mrun cal lb lim scr (ret' i) (K' i) rows pc lv st h := by
  intro rows
  induction rows with
  | nil => intro pc lv st h; exact hk _ _ _ _
  | cons row rows ih =>
    intro pc lv st h
    obtain ⟨ins, len, a, b, z, ts⟩ := row
    cases ins <;> first
      | exact False.elim
      | (simp only [mrun]
         repeat' first
          | exact ih _ _ _ _
          | exact hk _ _ _ _
          | exact hr _ _
          | exact False.elim
          | refine mI_ex (fun _ _ => ?_)
          | refine mL_ex (fun _ _ => ?_)
          | refine mR_ex (fun _ _ => ?_)
          | refine mA_ex (fun _ _ => ?_)
          | refine lgetI_ex (fun _ => ?_)
          | refine lgetL_ex (fun _ => ?_)
          | refine lgetA_ex (fun _ => ?_)
          | refine mTag_ex (fun _ => ?_)
          | refine mRef_ex (fun _ => ?_)
          | refine mB_ex ?_
          | refine mIn_ex ?_
          | refine mBo_ex ?_
          | refine bif_ex ?_ ?_
          | refine ex_ex (fun _ => ?_)
          | refine sw_ex (fun _ => hk _ _ _ _) (hk _ _ _ _)
          | refine br_ex ?_ ?_
          | refine and_ex ?_
          | split)
end
