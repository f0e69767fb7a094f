/-! pure: numbers and states -/
theorem lit_nI (k : Nat) : (@OfNat.ofNat Int32 k _) = nI k := rfl
theorem lit_lN (k : Nat) : (@OfNat.ofNat Int64 k _) = lN k := rfl
theorem gsi_at (σ : gS) (c : Nat) (f : Nat → Int32) (c' k : Nat) : (gsi σ c f).1 c' k = if c' = c then f k else σ.1 c' k := by
  show (if c' = c then f else σ.1 c') k = _
  split <;> rfl
theorem gsi_l2 (σ : gS) (c : Nat) (f : Nat → Int32) : (gsi σ c f).2 = σ.2 := rfl
theorem gsl_at (σ : gS) (c : Nat) (f : Nat → Int64) (c' k : Nat) : (gsl σ c f).2 c' k = if c' = c then f k else σ.2 c' k := by
  show (if c' = c then f else σ.2 c') k = _
  split <;> rfl
theorem gsl_i1 (σ : gS) (c : Nat) (f : Nat → Int64) : (gsl σ c f).1 = σ.1 := rfl
theorem upd_at (f : Nat → Int32) (k : Nat) (x : Int32) (j : Nat) : upd f k x j = if j = k then x else f j := rfl
theorem updL_at (f : Nat → Int64) (k : Nat) (x : Int64) (j : Nat) : vp_updL f k x j = if j = k then x else f j := rfl
theorem gix_nI {k m : Nat} (h : k < m) (hm : m < 2147483648) : gix (nI k) m = true := by
  unfold gix
  rw [nI_clamp (by omega)]
  have : ¬ nI k < 0 := nI_pos (by omega)
  simp [this]
  omega
/-- a number within 0 .. s - 1 -/
def inb (v : Int32) (s : Nat) : Bool := decide (0 ≤ v.toInt) && decide (v.toInt < (s : Int))
theorem inb_nI {j s : Nat} (h : j < 2147483648) : inb (nI j) s = decide (j < s) := by
  unfold inb
  rw [nI_toInt h]
  simp
theorem inb_of {v : Int32} {s : Nat} (h : inb v s = true) (hs : s < 2147483648) : ∃ j : Nat, j < s ∧ v = nI j := by
  unfold inb at h
  simp only [Bool.and_eq_true, decide_eq_true_eq] at h
  refine ⟨v.toInt.toNat, by omega, Int32.toInt_inj.mp ?_⟩
  rw [nI_toInt (by omega)]
  omega
theorem inb_lt {v : Int32} {s : Nat} (h : inb v s = true) : 0 ≤ v.toInt ∧ v.toInt < s := by
  unfold inb at h
  simpa using h
theorem inb_no {v : Int32} {s : Nat} (h : inb v s = false) : v.toInt < 0 ∨ (s : Int) ≤ v.toInt := by
  unfold inb at h
  simp at h
  omega
def bI (b : Bool) : Int32 := if b then nI 1 else nI 0
theorem bI_t : bI true = nI 1 := rfl
theorem bI_f : bI false = nI 0 := rfl
theorem bI_0 (b : Bool) : (bI b = nI 0) = (b = false) := by cases b <;> simp [bI, nI] <;> decide
theorem bI_gzb (b : Bool) : gzb (bI b) = true := by cases b <;> decide
theorem i_lt (x y : Int32) : (x < y) = (x.toInt < y.toInt) := propext Int32.lt_iff_toInt_lt
theorem i_le (x y : Int32) : (x ≤ y) = (x.toInt ≤ y.toInt) := propext Int32.le_iff_toInt_le
theorem within_eq (v : Int32) {s : Nat} (hs : s < 2147483648) : f_T_within v (nI s) = some (bI (inb v s)) := by
  unfold f_T_within inb bI
  simp only [i_lt, i_le, lit_nI, nI_toInt (show 0 < 2 ^ 31 by decide), nI_toInt (show s < 2 ^ 31 by omega)]
  by_cases h1 : v.toInt < 0
  · have h2 : ¬ (0 : Int) ≤ v.toInt := by omega
    simp [h1, h2]
  · have h2 : (0 : Int) ≤ v.toInt := by omega
    by_cases h3 : (s : Int) ≤ v.toInt
    · have h4 : ¬ v.toInt < (s : Int) := by omega
      simp [h1, h2, h3, h4]
    · have h4 : v.toInt < (s : Int) := by omega
      simp [h1, h2, h3, h4]
theorem cmp_lt (x y : Int64) : (lg_cmp x y < nI 0) = (x.toInt < y.toInt) := by
  unfold lg_cmp
  rw [← Int64.lt_iff_toInt_lt]
  by_cases h : x > y
  · rw [if_pos h]
    have : ¬ x < y := Int64.not_lt.mpr (Int64.le_of_lt h)
    simp [this]
    decide
  · rw [if_neg h]
    by_cases h2 : x = y
    · rw [if_pos h2, h2]
      have : ¬ y < y := Int64.lt_irrefl
      simp [this]
      decide
    · rw [if_neg h2]
      have : x < y := by
        rcases Int64.lt_or_lt_of_ne h2 with q | q
        · exact q
        · exact absurd q h
      simp [this]
      decide
theorem cmp_gt (x y : Int64) : (nI 0 < lg_cmp x y) = (y.toInt < x.toInt) := by
  unfold lg_cmp
  rw [← Int64.lt_iff_toInt_lt]
  by_cases h : x > y
  · rw [if_pos h]
    have : y < x := h
    simp [this]
    decide
  · rw [if_neg h]
    have h3 : ¬ y < x := h
    by_cases h2 : x = y
    · rw [if_pos h2]
      simp [h3]
      decide
    · rw [if_neg h2]
      simp [h3]
      decide
theorem Mwithin (v a b : Int64) : f_M_within v a b = some (bI (decide (a.toInt ≤ v.toInt) && decide (v.toInt ≤ b.toInt))) := by
  unfold f_M_within bI
  simp only [lit_nI, cmp_lt, cmp_gt]
  by_cases h1 : v.toInt < a.toInt
  · have h2 : ¬ a.toInt ≤ v.toInt := by omega
    simp [h1, h2]
  · have h2 : a.toInt ≤ v.toInt := by omega
    by_cases h3 : b.toInt < v.toInt
    · have h4 : ¬ v.toInt ≤ b.toInt := by omega
      simp [h1, h2, h3, h4]
    · have h4 : v.toInt ≤ b.toInt := by omega
      simp [h1, h2, h3, h4]
theorem lN_tI {n : Nat} (h : n < 9223372036854775808) : (lN n).toInt = (n : Int) := pk_lT h
theorem Mwithin_i (v : Int32) {a b : Nat} (ha : a < 2147483648) (hb : b < 2147483648) : f_M_within v.toInt64 (lN a) (lN b) = some (bI (decide ((a : Int) ≤ v.toInt) && decide (v.toInt ≤ (b : Int)))) := by
  rw [Mwithin, Int32.toInt_toInt64, lN_tI (by omega), lN_tI (by omega)]
theorem Mwithin0 (v : Int32) {b : Nat} (hb : b < 2147483647) : f_M_within v.toInt64 (lN 0) (lN b) = some (bI (inb v (b + 1))) := by
  rw [Mwithin_i v (by omega) (by omega)]
  unfold inb
  have : (v.toInt ≤ (b : Int)) = (v.toInt < ((b + 1 : Nat) : Int)) := by
    apply propext
    omega
  simp [this]
/-! the same facts as above, by proofs that simp doesn't take for 'rfl': a term whose head is a loop is never unrolled to check them -/
theorem litE (k : Nat) : (@OfNat.ofNat Int32 k _) = nI k := (lit_nI k).trans (Eq.refl (nI k))
theorem litLE (k : Nat) : (@OfNat.ofNat Int64 k _) = lN k := (lit_lN k).trans (Eq.refl (lN k))
theorem gupE {α : Type} (τ : gS) (k : gS → Option α) : gup τ k = k τ := (show gup τ k = k τ from rfl).trans (Eq.refl (k τ))
theorem gltE {α : Type} (x : Int32) (k : Int32 → Option α) : glt x k = k x := (show glt x k = k x from rfl).trans (Eq.refl (k x))
theorem gllE {α : Type} (x : Int64) (k : Int64 → Option α) : gll x k = k x := (show gll x k = k x from rfl).trans (Eq.refl (k x))
theorem bindE {α β : Type} (x : α) (f : α → Option β) : (some x).bind f = f x := (show (some x).bind f = f x from rfl).trans (Eq.refl (f x))
