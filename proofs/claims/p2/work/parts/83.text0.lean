/-! PURE PROOFS 60: a first call: text -/
theorem mclear_ne (M : mMem) {k j : Nat} (h : j < k ∨ k + 8 ≤ j) : mclear M k j = M j := by
  unfold mclear
  rw [mupd_ne _ _ _ (by omega), mupd_ne _ _ _ (by omega), mfill_ne _ _ _ (by omega), mupd_ne _ _ _ (by omega), mupd_ne _ _ _ (by omega), mfill_ne _ _ _ (by omega), mfill_ne _ _ _ (by omega), mfill_ne _ _ _ (by omega)]
theorem isCh9 : isCh S0 9 := by
  unfold isCh
  decide +kernel
theorem R_byteAt (d : Nat) (M : mMem) (k : Int) (hk : 0 ≤ k) (h : M 53 5 ≤ 160) : mR3 (d + 1) 118 [vr 53, vi k] (S0, M) (some (vi (if M 53 5 ≤ k then -4 else M 56 k)), (S0, M)) := by
  refine ⟨⟨by decide, Nat.le_of_ble_eq_true rfl⟩, fun K hK => q_M_byteAt_0 hK k M ⟨fun q => mret_i ?_ rfl, fun q => mIn_i hk (by omega) (mret_i ?_ rfl)⟩⟩
  · rw [if_pos q]
  · rw [if_neg q]
