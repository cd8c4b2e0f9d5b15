/-! PURE PROOFS 4: small methods -/
theorem mret_i {v w : Int} {M M' : mMem} (h : v = w) (hm : M = M') : mret (some (vi w), (S0, M')) (some (vi v)) (S0, M) := ⟨by rw [h], by rw [hm]⟩
theorem mret_l {v w : Int} {M M' : mMem} (h : v = w) (hm : M = M') : mret (some (vl w), (S0, M')) (some (vl v)) (S0, M) := ⟨by rw [h], by rw [hm]⟩
theorem mret_n {M M' : mMem} (hm : M = M') : mret (none, (S0, M')) none (S0, M) := ⟨rfl, by rw [hm]⟩
def b2 (c : Prop) [Decidable c] : Int := if c then 1 else 0
theorem b2_t {c : Prop} [Decidable c] (h : c) : b2 c = 1 := if_pos h
theorem b2_f {c : Prop} [Decidable c] (h : ¬ c) : b2 c = 0 := if_neg h
theorem b2_01 (c : Prop) [Decidable c] : b2 c = 0 ∨ b2 c = 1 := by unfold b2; split <;> simp
theorem b2_0 {c : Prop} [Decidable c] : b2 c = 0 ↔ ¬ c := by unfold b2; split <;> simp_all
theorem b2_n0 {c : Prop} [Decidable c] : b2 c ≠ 0 ↔ c := by unfold b2; split <;> simp_all
theorem jdiv_nn {a b : Int} (h0 : 0 ≤ a) (h1 : a < 2147483648) (hb : 0 < b) : jdiv a b = a / b := by
  unfold jdiv
  rw [Int.tdiv_eq_ediv_of_nonneg h0]
  have h2 : 0 ≤ a / b := Int.ediv_nonneg h0 (by omega)
  have h3 : a / b ≤ a := Int.ediv_le_self b h0
  exact w32_s (by omega) (by omega)
theorem jrem_nn {a b : Int} (h0 : 0 ≤ a) : jrem a b = a % b := Int.tmod_eq_emod_of_nonneg h0
theorem jlcmp_lt {a b : Int} : jlcmp a b < 0 ↔ a < b := by unfold jlcmp; split <;> (try split) <;> omega
theorem jlcmp_gt {a b : Int} : 0 < jlcmp a b ↔ b < a := by unfold jlcmp; split <;> (try split) <;> omega
theorem jlcmp_eq {a b : Int} : jlcmp a b = 0 ↔ a = b := by unfold jlcmp; split <;> (try split) <;> omega
section
variable (d : Nat) (M : mMem)
theorem R_isCell (x y : Int) : mR3 (d + 1) 87 [vi x, vi y] (S0, M) (some (vi (b2 (0 ≤ x ∧ x < 6 ∧ 0 ≤ y ∧ y < 6))), (S0, M)) := by
  refine ⟨⟨by decide, Nat.le_of_ble_eq_true rfl⟩, fun K hK => q_L_isCell_0 hK x y M ?_⟩
  repeat' (first | refine br_c (fun _ => ?_) (fun _ => ?_))
  all_goals first | exact mret_i (b2_t (by omega)).symm rfl | exact mret_i (b2_f (by omega)).symm rfl
theorem R_isColour (x : Int) : mR3 (d + 1) 88 [vi x] (S0, M) (some (vi (b2 (1 ≤ x ∧ x ≤ 3))), (S0, M)) := by
  refine ⟨⟨by decide, Nat.le_of_ble_eq_true rfl⟩, fun K hK => q_L_isColour_0 hK x M ?_⟩
  repeat' (first | refine br_c (fun _ => ?_) (fun _ => ?_))
  all_goals first | exact mret_i (b2_t (by omega)).symm rfl | exact mret_i (b2_f (by omega)).symm rfl
theorem R_isPart (x : Int) : mR3 (d + 1) 89 [vi x] (S0, M) (some (vi (b2 (x = 0 ∨ x = 1))), (S0, M)) := by
  refine ⟨⟨by decide, Nat.le_of_ble_eq_true rfl⟩, fun K hK => q_L_isPart_0 hK x M ?_⟩
  repeat' (first | refine br_c (fun _ => ?_) (fun _ => ?_))
  all_goals first | exact mret_i (b2_t (by omega)).symm rfl | exact mret_i (b2_f (by omega)).symm rfl
theorem R_isSheet (x : Int) : mR3 (d + 1) 90 [vi x] (S0, M) (some (vi (b2 (0 ≤ x ∧ x < 4))), (S0, M)) := by
  refine ⟨⟨by decide, Nat.le_of_ble_eq_true rfl⟩, fun K hK => q_L_isSheet_0 hK x M ?_⟩
  repeat' (first | refine br_c (fun _ => ?_) (fun _ => ?_))
  all_goals first | exact mret_i (b2_t (by omega)).symm rfl | exact mret_i (b2_f (by omega)).symm rfl
theorem R_isLane (x : Int) : mR3 (d + 1) 91 [vi x] (S0, M) (some (vi (b2 (0 ≤ x ∧ x ≤ 2))), (S0, M)) := by
  refine ⟨⟨by decide, Nat.le_of_ble_eq_true rfl⟩, fun K hK => q_L_isLane_0 hK x M ?_⟩
  repeat' (first | refine br_c (fun _ => ?_) (fun _ => ?_))
  all_goals first | exact mret_i (b2_t (by omega)).symm rfl | exact mret_i (b2_f (by omega)).symm rfl
theorem R_isLaw (x : Int) : mR3 (d + 1) 92 [vr 0, vi x] (S0, M) (some (vi (b2 (0 ≤ x ∧ x < M 1 5))), (S0, M)) := by
  refine ⟨⟨by decide, Nat.le_of_ble_eq_true rfl⟩, fun K hK => q_L_isLaw_0 hK x M ?_⟩
  repeat' (first | refine br_c (fun _ => ?_) (fun _ => ?_))
  all_goals first | exact mret_i (b2_t (by omega)).symm rfl | exact mret_i (b2_f (by omega)).symm rfl
theorem R_isLawPart (x y : Int) : mR3 (d + 2) 93 [vi x, vi y] (S0, M) (some (vi (b2 ((x = 0 ∧ 0 ≤ y ∧ y ≤ 3) ∨ (x = 1 ∧ 1 ≤ y ∧ y ≤ 3) ∨ (x = 2 ∧ 1 ≤ y ∧ y ≤ 3) ∨ (x = 3 ∧ 1 ≤ y ∧ y ≤ 9)))), (S0, M)) := by
  refine ⟨⟨by decide, Nat.le_of_ble_eq_true rfl⟩, fun K hK => q_L_isLawPart_0 hK x y M ?_⟩
  have hc : b2 (1 ≤ y ∧ y ≤ 3) = 0 ∨ b2 (1 ≤ y ∧ y ≤ 3) = 1 := b2_01 _
  refine ⟨⟨fun _ => ?_, fun _ => ⟨_, _, R_isColour d M y, mBo_i hc ?_⟩, fun _ => ⟨_, _, R_isColour d M y, mBo_i hc ?_⟩, fun _ => ?_, trivial⟩, fun _ => ?_⟩
  · repeat' (first | refine br_c (fun _ => ?_) (fun _ => ?_))
    all_goals first | exact mret_i (b2_t (by omega)).symm rfl | exact mret_i (b2_f (by omega)).symm rfl
  · refine mret_i ?_ rfl
    unfold b2
    split <;> split <;> omega
  · refine mret_i ?_ rfl
    unfold b2
    split <;> split <;> omega
  · repeat' (first | refine br_c (fun _ => ?_) (fun _ => ?_))
    all_goals first | exact mret_i (b2_t (by omega)).symm rfl | exact mret_i (b2_f (by omega)).symm rfl
  · exact mret_i (b2_f (by omega)).symm rfl
theorem R_place {x y : Int} (hx : 0 ≤ x ∧ x < 6) (hy : 0 ≤ y ∧ y < 6) : mR3 (d + 1) 94 [vi x, vi y] (S0, M) (some (vi (6 * x + y)), (S0, M)) := by
  refine ⟨⟨by decide, Nat.le_of_ble_eq_true rfl⟩, fun K hK => q_L_place_0 hK x y M ?_⟩
  refine mret_i ?_ rfl
  unfold w32
  omega
theorem R_stitchCode {a c : Int} (ha : 0 ≤ a ∧ a < 36) (hc : 0 ≤ c ∧ c < 10) : mR3 (d + 1) 95 [vi a, vi c] (S0, M) (some (vi (100 * (a / 6) + 10 * (a % 6) + c)), (S0, M)) := by
  refine ⟨⟨by decide, Nat.le_of_ble_eq_true rfl⟩, fun K hK => q_L_stitchCode_0 hK a c M ?_⟩
  refine mret_i ?_ rfl
  rw [jdiv_nn ha.1 (by omega) (by omega), jrem_nn ha.1]
  unfold w32
  omega
theorem R_in (a b c : Int) : mR3 (d + 1) 115 [vl a, vl b, vl c] (S0, M) (some (vi (b2 (b ≤ a ∧ a ≤ c))), (S0, M)) := by
  refine ⟨⟨by decide, Nat.le_of_ble_eq_true rfl⟩, fun K hK => q_M_in_0 hK a b c M ?_⟩
  rw [jlcmp_lt, jlcmp_gt]
  repeat' (first | refine br_c (fun _ => ?_) (fun _ => ?_))
  all_goals first | exact mret_i (b2_t (by omega)).symm rfl | exact mret_i (b2_f (by omega)).symm rfl
end
