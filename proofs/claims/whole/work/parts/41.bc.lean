/-! pure: what has happened, in the class -/
/-- how many bits below k are set -/
def cnt (m : Nat) : Nat → Nat
  | 0 => 0
  | k + 1 => cnt m k + (if m.testBit k = true then 1 else 0)
theorem bc_all : ∀ a, a < 128 → ∀ b, b < 64 → f_JI_bitCount (nI (64 * a + b)) = some (nI (cnt (64 * a + b) 13)) := by decide +kernel
theorem bc {a : Nat} (h : a < 8192) : f_JI_bitCount (nI a) = some (nI (cnt a 13)) := by
  have := bc_all (a / 64) (by omega) (a % 64) (by omega)
  rw [show 64 * (a / 64) + a % 64 = a by omega] at this
  exact this
theorem cnt_le (m : Nat) : ∀ k, cnt m k ≤ k
  | 0 => Nat.le_refl _
  | k + 1 => by
    have := cnt_le m k
    simp only [cnt]
    split <;> omega
theorem cnt_hi {m k : Nat} (h : m < 2 ^ k) : ∀ j, cnt m (k + j) = cnt m k
  | 0 => rfl
  | j + 1 => by
    have h2 : m.testBit (k + j) = false := Nat.testBit_lt_two_pow (Nat.lt_of_lt_of_le h (Nat.pow_le_pow_right (by decide) (by omega)))
    show cnt m (k + j) + (if m.testBit (k + j) = true then 1 else 0) = _
    rw [h2, cnt_hi h j]
    rfl
theorem cnt10 {m : Nat} (h : m < 1024) : cnt m 13 = cnt m 10 := cnt_hi (k := 10) h 3
theorem cnt8 {m : Nat} (h : m < 256) : cnt m 13 = cnt m 8 := cnt_hi (k := 8) h 5
theorem cnt_one0 : ∀ m, m < 256 → ∀ i, i < 8 → ∀ j, j < 8 → ¬ (cnt m 8 < 2 ∧ m.testBit i = true ∧ m.testBit j = true ∧ i ≠ j) := by decide +kernel
theorem cnt_one (m : Nat) (hm : m < 256) (h : cnt m 8 < 2) (i : Nat) (hi : i < 8) (j : Nat) (hj : j < 8) (h1 : m.testBit i = true) (h2 : m.testBit j = true) : i = j := Classical.byContradiction fun q => cnt_one0 m hm i hi j hj ⟨h, h1, h2, q⟩
theorem cnt_many : ∀ m, m < 256 → 2 ≤ cnt m 8 → ∃ i, i < 8 ∧ ∃ j, j < 8 ∧ m.testBit i = true ∧ m.testBit j = true ∧ i ≠ j := by decide +kernel
