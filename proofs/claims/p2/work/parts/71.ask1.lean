/-! PURE PROOFS 49: ask, the choice -/
def asS (M : mMem) (H : Int → Int) (cn ns : Nat) : Nat → Int × Int
  | 0 => (-4, -(flS M H cn ns (4 ^ cn)))
  | l + 1 => off (asS M H cn ns l) (l : Nat) (-(woM M H cn ns (l : Nat) (4 ^ cn)))
theorem asS_s (M : mMem) (H : Int → Int) (cn ns l : Nat) : asS M H cn ns (l + 1) = off (asS M H cn ns l) (l : Nat) (-(woM M H cn ns (l : Nat) (4 ^ cn))) := rfl
theorem woM_le (M : mMem) (H : Int → Int) (cn ns : Nat) (l : Int) (q : Nat) : 0 ≤ woM M H cn ns l q ∧ woM M H cn ns l q ≤ q := by
  obtain ⟨a, _, b⟩ := woM_mx M H cn ns l q
  refine ⟨a, ?_⟩
  rcases b with b | ⟨n, _, _, b⟩
  · omega
  · have := gc_rng M H cn ns l n q
    omega
theorem asS_rng (M : mMem) (H : Int → Int) (cn ns : Nat) : ∀ l : Nat, -((4 ^ cn : Nat) : Int) ≤ (asS M H cn ns l).2 ∧ (asS M H cn ns l).2 ≤ 0
  | 0 => by
    have h := flS_rng M H cn ns (4 ^ cn)
    show -((4 ^ cn : Nat) : Int) ≤ -(flS M H cn ns (4 ^ cn)) ∧ -(flS M H cn ns (4 ^ cn)) ≤ 0
    omega
  | l + 1 => by
    have h1 := asS_rng M H cn ns l
    have h := woM_le M H cn ns (l : Nat) (4 ^ cn)
    rw [asS_s]
    unfold off
    split
    · exact h1
    · show -((4 ^ cn : Nat) : Int) ≤ -(woM M H cn ns (l : Nat) (4 ^ cn)) ∧ -(woM M H cn ns (l : Nat) (4 ^ cn)) ≤ 0
      omega
theorem HoL_37 {M m m' : mMem} {H : Int → Int} {cn : Nat} (h : HoL M m H cn) (e : ∀ k : Nat, k ≠ 37 → m' k = m k) : HoL M m' H cn := by
  obtain ⟨h1, ⟨g, h2, h3⟩, h4, h5⟩ := h
  refine ⟨FrL_row h1 (fun k _ a _ _ _ _ => e k a), ⟨g, T_eq h2 (fun k a b => e k (by omega)) (by rw [e 9 (by decide)]) (by rw [e 9 (by decide)]), h3⟩, ?_, fun i a b => ?_⟩
  · rw [e 0 (by decide), h4]
  · rw [e 42 (by decide), h5 i a b]
