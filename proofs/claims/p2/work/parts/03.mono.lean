section
variable {cal : mCal} {lb : List (Nat × List Nat)} {lim : Nat × Nat} {scr : Nat × (Nat → Int)} {ret : Option mVal → mHp → Prop} {K K' : Nat → mLV → List mVal → mHp → Prop}
theorem mI_mo {st : List mVal} {k k' : Int → List mVal → Prop} (h : ∀ x r, k x r → k' x r) : mI st k → mI st k' := by
  unfold mI; split <;> first | exact h _ _ | exact id
theorem mL_mo {st : List mVal} {k k' : Int → List mVal → Prop} (h : ∀ x r, k x r → k' x r) : mL st k → mL st k' := by
  unfold mL; split <;> first | exact h _ _ | exact id
theorem mR_mo {st : List mVal} {k k' : Nat → List mVal → Prop} (h : ∀ x r, k x r → k' x r) : mR st k → mR st k' := by
  unfold mR; split <;> first | exact h _ _ | exact id
theorem mA_mo {st : List mVal} {k k' : mVal → List mVal → Prop} (h : ∀ x r, k x r → k' x r) : mA st k → mA st k' := by
  unfold mA; split <;> first | exact h _ _ | exact id
theorem lget_mo {lv : mLV} {i : Nat} {k k' : mVal → Prop} (h : ∀ x, k x → k' x) : lget lv i k → lget lv i k' := by
  unfold lget; split <;> first | exact h _ | exact id
theorem lgetI_mo {lv : mLV} {i : Nat} {k k' : Int → Prop} (h : ∀ x, k x → k' x) : lgetI lv i k → lgetI lv i k' := by
  unfold lgetI; split <;> first | exact h _ | exact id
theorem lgetL_mo {lv : mLV} {i : Nat} {k k' : Int → Prop} (h : ∀ x, k x → k' x) : lgetL lv i k → lgetL lv i k' := by
  unfold lgetL; split <;> first | exact h _ | exact id
theorem lgetA_mo {lv : mLV} {i : Nat} {k k' : Nat ⊕ Nat → Prop} (h : ∀ x, k x → k' x) : lgetA lv i k → lgetA lv i k' := by
  unfold lgetA; split <;> first | exact h _ | exact id
theorem mB_mo {b : Bool} {p p' : Prop} (h : p → p') : mB b p → mB b p' := by cases b <;> first | exact h | exact id
theorem mIn_mo {i : Int} {n : Nat} {p p' : Prop} (h : p → p') : mIn i n p → mIn i n p' := fun q => mIn_i (mIn_e q).1.1 (mIn_e q).1.2 (h (mIn_e q).2)
theorem mBo_mo {v : Int} {p p' : Prop} (h : p → p') : mBo v p → mBo v p' := fun q => mBo_i (mBo_e q).1 (h (mBo_e q).2)
theorem mTag_mo {sh : mSh} {k t : Nat} {c c' : Nat → Prop} (h : ∀ n, c n → c' n) : mTag sh k t c → mTag sh k t c' := by
  unfold mTag; split
  · rename_i t' n _
    cases (t' == t) <;> first | exact h _ | exact id
  · exact id
theorem mRef_mo {sh : mSh} {k j : Nat} {c c' : Nat → Prop} (h : ∀ n, c n → c' n) : mRef sh k j c → mRef sh k j c' := by
  unfold mRef; split <;> first | exact h _ | exact id
theorem and_mo {a b b' : Prop} (h : b → b') : a ∧ b → a ∧ b' := fun q => ⟨q.1, h q.2⟩
theorem and2_mo {a b a' b' : Prop} (h0 : a → a') (h : b → b') : a ∧ b → a' ∧ b' := fun q => ⟨h0 q.1, h q.2⟩
theorem imp_mo {a b b' : Prop} (h : b → b') : (a → b) → (a → b') := fun q x => h (q x)
theorem ex_mo {α : Type} {p p' : α → Prop} (h : ∀ x, p x → p' x) : (∃ x, p x) → ∃ x, p' x := fun ⟨x, q⟩ => ⟨x, h x q⟩
theorem bif_mo {b : Bool} {p p' q q' : Prop} (h : p → p') (h2 : q → q') : (bif b then p else q) → (bif b then p' else q') := by cases b <;> first | exact h | exact h2
theorem swP_mo {k k' : Nat → Prop} (h : ∀ t, k t → k' t) {x : Int} : ∀ (ts : List Nat) (j : Nat), swP k x j ts → swP k' x j ts
  | [], _ => id
  | t :: ts, j => and2_mo (imp_mo (h t)) (swP_mo h ts (j + 1))
set_option maxHeartbeats 4000000 in
theorem mrun_mo (hk : ∀ t lv st h, K t lv st h → K' t lv st h) : ∀ (rows : List mRow) (pc : Nat) (lv : mLV) (st : List mVal) (h : mHp), mrun cal lb lim scr ret K rows pc lv st h → mrun cal lb lim scr ret K' rows pc lv st h := by
  intro rows
  induction rows with
  | nil => intro pc lv st h; exact hk _ _ _ _
  | cons row rows ih =>
    intro pc lv st h
    obtain ⟨ins, len, a, b, z, ts⟩ := row
    cases ins <;> first
      | exact id
      | (simp only [mrun]
         repeat' first
          | exact ih _ _ _ _
          | exact hk _ _ _ _
          | exact id
          | refine mI_mo (fun _ _ => ?_)
          | refine mL_mo (fun _ _ => ?_)
          | refine mR_mo (fun _ _ => ?_)
          | refine mA_mo (fun _ _ => ?_)
          | refine lget_mo (fun _ => ?_)
          | refine lgetI_mo (fun _ => ?_)
          | refine lgetL_mo (fun _ => ?_)
          | refine lgetA_mo (fun _ => ?_)
          | refine mTag_mo (fun _ => ?_)
          | refine mRef_mo (fun _ => ?_)
          | refine mB_mo ?_
          | refine mIn_mo ?_
          | refine mBo_mo ?_
          | refine bif_mo ?_ ?_
          | refine ex_mo (fun _ => ?_)
          | refine and2_mo (swP_mo (fun _ => hk _ _ _ _) _ _) ?_
          | refine and2_mo (imp_mo (hk _ _ _ _)) ?_
          | refine and_mo ?_
          | refine imp_mo ?_
          | split)
end
theorem mJ_K {M : mMeth} {cal : mCal} {lim : Nat × Nat} {scr : Nat × (Nat → Int)} {ret : Option mVal → mHp → Prop} {K : Nat → mLV → List mVal → mHp → Prop} (hK : mClo M cal lim scr ret K) (inl : List Nat) : ∀ (n t : Nat) (lv : mLV) (st : List mVal) (h : mHp), mJ M cal lim scr ret K inl n t lv st h → K t lv st h
  | 0, _, _, _, _ => id
  | n + 1, t, lv, st, h => by
    unfold mJ
    cases inl.contains t with
    | false => exact id
    | true =>
      show (match M.1.lookup t with
        | some rows => mrun cal M.2 lim scr ret (mJ M cal lim scr ret K inl n) rows t lv st h
        | none => K t lv st h) → _
      split
      · rename_i rows hr
        intro q
        have hm : (t, rows) ∈ M.1 := by
          have key : ∀ l : List (Nat × List mRow), l.lookup t = some rows → (t, rows) ∈ l := by
            intro l
            induction l with
            | nil => intro h; simp at h
            | cons q l ih =>
              obtain ⟨a, b⟩ := q
              intro h
              by_cases ha : t = a
              · subst ha
                simp at h
                subst h
                exact List.mem_cons_self
              · have : (t == a) = false := by simpa using ha
                rw [List.lookup_cons, this] at h
                exact List.mem_cons_of_mem _ (ih h)
          exact key _ hr
        obtain ⟨i, hi⟩ := List.getElem?_of_mem hm
        exact hK i t rows hi lv st h (mrun_mo (mJ_K hK inl n) rows t lv st h q)
      · exact id
/-- what holds behind a block, its inner jumps followed, holds at its label -/
theorem mQ {M : mMeth} {cal : mCal} {lim : Nat × Nat} {scr : Nat × (Nat → Int)} {ret : Option mVal → mHp → Prop} {K : Nat → mLV → List mVal → mHp → Prop} (hK : mClo M cal lim scr ret K) (inl : List Nat) (n i pc : Nat) (rows : List mRow) (hi : M.1[i]? = some (pc, rows)) (lv : mLV) (st : List mVal) (h : mHp) (q : mrun cal M.2 lim scr ret (mJ M cal lim scr ret K inl n) rows pc lv st h) : K pc lv st h := hK i pc rows hi lv st h (mrun_mo (mJ_K hK inl n) rows pc lv st h q)
