-- sets below 4096: their members in a row, numbers of the machine's library
def bL (s : Nat) : List Nat := (List.range 12).filter (fun p => s.testBit p)
theorem bs_nI {s p : Nat} (hp : p < 32) : bs (nI s) p = s.testBit p := by
  rw [bs_bt _ hp]
  unfold bt
  show (BitVec.ofNat 32 s).getLsbD p = s.testBit p
  rw [BitVec.getLsbD_ofNat, decide_eq_true hp, Bool.true_and]
theorem kF : ∀ a, a < 64 → ∀ b, b < 64 → FJ6_bitCount_0f7a4 (nI (64 * a + b)) = some (nI (bL (64 * a + b)).length) ∧ (64 * a + b = 0 ∨ FJ6_numberOfTrailingZeros_0f7a4 (nI (64 * a + b)) = some (nI ((bL (64 * a + b)).headD 0))) ∧ nI (64 * a + b) &&& (nI (64 * a + b) - 1) = nI ((64 * a + b) &&& (64 * a + b - 1)) ∧ bL ((64 * a + b) &&& (64 * a + b - 1)) = (bL (64 * a + b)).tail ∧ ((64 * a + b) &&& (64 * a + b - 1)) < 4096 ∧ ((bL (64 * a + b)).length = 0 → 64 * a + b = 0) := by decide +kernel
theorem kS {s : Nat} (h : s < 4096) : FJ6_bitCount_0f7a4 (nI s) = some (nI (bL s).length) ∧ (s = 0 ∨ FJ6_numberOfTrailingZeros_0f7a4 (nI s) = some (nI ((bL s).headD 0))) ∧ nI s &&& (nI s - 1) = nI (s &&& (s - 1)) ∧ bL (s &&& (s - 1)) = (bL s).tail ∧ (s &&& (s - 1)) < 4096 ∧ ((bL s).length = 0 → s = 0) := by
  have := kF (s / 64) (by omega) (s % 64) (by omega)
  rw [show 64 * (s / 64) + s % 64 = s by omega] at this
  exact this
