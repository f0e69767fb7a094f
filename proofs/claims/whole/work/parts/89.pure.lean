/-! pure: all turns -/
theorem cmp_self (x : Int64) : lg_cmp x x = 0 := by
  unfold lg_cmp
  rw [if_neg (show ¬ x > x from Int64.lt_irrefl), if_pos rfl]
theorem ite1 {α : Type} {c : Prop} [Decidable c] {a b o : α} (h1 : a = o) (h2 : b = o) : (if c then a else b) = o := by
  split
  · exact h1
  · exact h2
theorem lj_212 {XL i : Nat} {xs : Nat → Int32} {k18 : Int32 → gS → Option Int32} {σ : gS} (hi : i + 6 ≤ XL) (hX : XL ≤ 3072) (hk : ∀ τ, R τ → k18 (nI i + 6) τ = some 1) (hR : R σ) : f_law_j212 XL xs k18 (nI i) σ = some 1 := by
  have g1 : gix (nI i + 1) XL = true := by
    show gix (nI i + nI 1) XL = true
    rw [nI_add]
    exact gix_nI (by omega) (by omega)
  have g2 : gix (nI i + 2) XL = true := by
    show gix (nI i + nI 2) XL = true
    rw [nI_add]
    exact gix_nI (by omega) (by omega)
  have g3 : gix (nI i + 3) XL = true := by
    show gix (nI i + nI 3) XL = true
    rw [nI_add]
    exact gix_nI (by omega) (by omega)
  have g4 : gix (nI i + 4) XL = true := by
    show gix (nI i + nI 4) XL = true
    rw [nI_add]
    exact gix_nI (by omega) (by omega)
  have g5 : gix (nI i + 5) XL = true := by
    show gix (nI i + nI 5) XL = true
    rw [nI_add]
    exact gix_nI (by omega) (by omega)
  obtain ⟨x, τ, υ, e1, e2, e3⟩ := ag_citizen (xs (nI i + (1)).toNatClampNeg) σ hR
  unfold f_law_j212
  simp only [g1, g2, g3, g4, g5, ↓reduceIte, e1, e2, bindE]
  exact hk υ e3
theorem lj_235 {XL i : Nat} {xs : Nat → Int32} {k18 : Int32 → gS → Option Int32} {σ : gS} (hi : i + 6 ≤ XL) (hX : XL ≤ 3072) (hk : ∀ τ, R τ → k18 (nI i + 6) τ = some 1) (hR : R σ) : f_law_j235 XL xs k18 (nI i) σ = some 1 := by
  have g1 : gix (nI i + 1) XL = true := by
    show gix (nI i + nI 1) XL = true
    rw [nI_add]
    exact gix_nI (by omega) (by omega)
  have g2 : gix (nI i + 2) XL = true := by
    show gix (nI i + nI 2) XL = true
    rw [nI_add]
    exact gix_nI (by omega) (by omega)
  have g3 : gix (nI i + 3) XL = true := by
    show gix (nI i + nI 3) XL = true
    rw [nI_add]
    exact gix_nI (by omega) (by omega)
  have g4 : gix (nI i + 4) XL = true := by
    show gix (nI i + nI 4) XL = true
    rw [nI_add]
    exact gix_nI (by omega) (by omega)
  have g5 : gix (nI i + 5) XL = true := by
    show gix (nI i + nI 5) XL = true
    rw [nI_add]
    exact gix_nI (by omega) (by omega)
  obtain ⟨x, τ, υ, e1, e2, e3⟩ := ag_citizens (xs (nI i + (1)).toNatClampNeg) (xs (nI i + (2)).toNatClampNeg) (xs (nI i + (3)).toNatClampNeg) σ hR
  unfold f_law_j235
  simp only [g1, g2, g3, g4, g5, ↓reduceIte, e1, e2, bindE]
  exact hk υ e3
theorem lj_278 {XL i : Nat} {xs : Nat → Int32} {k18 : Int32 → gS → Option Int32} {σ : gS} (hi : i + 6 ≤ XL) (hX : XL ≤ 3072) (hk : ∀ τ, R τ → k18 (nI i + 6) τ = some 1) (hR : R σ) : f_law_j278 XL xs k18 (nI i) σ = some 1 := by
  have g1 : gix (nI i + 1) XL = true := by
    show gix (nI i + nI 1) XL = true
    rw [nI_add]
    exact gix_nI (by omega) (by omega)
  have g2 : gix (nI i + 2) XL = true := by
    show gix (nI i + nI 2) XL = true
    rw [nI_add]
    exact gix_nI (by omega) (by omega)
  have g3 : gix (nI i + 3) XL = true := by
    show gix (nI i + nI 3) XL = true
    rw [nI_add]
    exact gix_nI (by omega) (by omega)
  have g4 : gix (nI i + 4) XL = true := by
    show gix (nI i + nI 4) XL = true
    rw [nI_add]
    exact gix_nI (by omega) (by omega)
  have g5 : gix (nI i + 5) XL = true := by
    show gix (nI i + nI 5) XL = true
    rw [nI_add]
    exact gix_nI (by omega) (by omega)
  obtain ⟨x, τ, υ, e1, e2, e3⟩ := ag_mend (xs (nI i + (1)).toNatClampNeg) (xs (nI i + (2)).toNatClampNeg) (xs (nI i + (3)).toNatClampNeg) σ hR
  unfold f_law_j278
  simp only [g1, g2, g3, g4, g5, ↓reduceIte, e1, e2, bindE]
  exact hk υ e3
theorem lj_321 {XL i : Nat} {xs : Nat → Int32} {k18 : Int32 → gS → Option Int32} {σ : gS} (hi : i + 6 ≤ XL) (hX : XL ≤ 3072) (hk : ∀ τ, R τ → k18 (nI i + 6) τ = some 1) (hR : R σ) : f_law_j321 XL xs k18 (nI i) σ = some 1 := by
  have g1 : gix (nI i + 1) XL = true := by
    show gix (nI i + nI 1) XL = true
    rw [nI_add]
    exact gix_nI (by omega) (by omega)
  have g2 : gix (nI i + 2) XL = true := by
    show gix (nI i + nI 2) XL = true
    rw [nI_add]
    exact gix_nI (by omega) (by omega)
  have g3 : gix (nI i + 3) XL = true := by
    show gix (nI i + nI 3) XL = true
    rw [nI_add]
    exact gix_nI (by omega) (by omega)
  have g4 : gix (nI i + 4) XL = true := by
    show gix (nI i + nI 4) XL = true
    rw [nI_add]
    exact gix_nI (by omega) (by omega)
  have g5 : gix (nI i + 5) XL = true := by
    show gix (nI i + nI 5) XL = true
    rw [nI_add]
    exact gix_nI (by omega) (by omega)
  obtain ⟨x, e1, e2⟩ := ag_of (xs (nI i + (1)).toNatClampNeg) (xs (nI i + (2)).toNatClampNeg) σ hR
  unfold f_law_j321
  simp only [g1, g2, g3, g4, g5, ↓reduceIte, e1, e2, bindE, cmp_self]
  exact hk σ hR
theorem lj_354 {XL i : Nat} {xs : Nat → Int32} {k18 : Int32 → gS → Option Int32} {σ : gS} (hi : i + 6 ≤ XL) (hX : XL ≤ 3072) (hk : ∀ τ, R τ → k18 (nI i + 6) τ = some 1) (hR : R σ) : f_law_j354 XL xs k18 (nI i) σ = some 1 := by
  have g1 : gix (nI i + 1) XL = true := by
    show gix (nI i + nI 1) XL = true
    rw [nI_add]
    exact gix_nI (by omega) (by omega)
  have g2 : gix (nI i + 2) XL = true := by
    show gix (nI i + nI 2) XL = true
    rw [nI_add]
    exact gix_nI (by omega) (by omega)
  have g3 : gix (nI i + 3) XL = true := by
    show gix (nI i + nI 3) XL = true
    rw [nI_add]
    exact gix_nI (by omega) (by omega)
  have g4 : gix (nI i + 4) XL = true := by
    show gix (nI i + nI 4) XL = true
    rw [nI_add]
    exact gix_nI (by omega) (by omega)
  have g5 : gix (nI i + 5) XL = true := by
    show gix (nI i + nI 5) XL = true
    rw [nI_add]
    exact gix_nI (by omega) (by omega)
  obtain ⟨x, τ, υ, e1, e2, e3⟩ := ag_feed (xs (nI i + (1)).toNatClampNeg) σ hR
  unfold f_law_j354
  simp only [g1, g2, g3, g4, g5, ↓reduceIte, e1, e2, bindE]
  exact hk υ e3
theorem lj_377 {XL i : Nat} {xs : Nat → Int32} {k18 : Int32 → gS → Option Int32} {σ : gS} (hi : i + 6 ≤ XL) (hX : XL ≤ 3072) (hk : ∀ τ, R τ → k18 (nI i + 6) τ = some 1) (hR : R σ) : f_law_j377 XL xs k18 (nI i) σ = some 1 := by
  have g1 : gix (nI i + 1) XL = true := by
    show gix (nI i + nI 1) XL = true
    rw [nI_add]
    exact gix_nI (by omega) (by omega)
  have g2 : gix (nI i + 2) XL = true := by
    show gix (nI i + nI 2) XL = true
    rw [nI_add]
    exact gix_nI (by omega) (by omega)
  have g3 : gix (nI i + 3) XL = true := by
    show gix (nI i + nI 3) XL = true
    rw [nI_add]
    exact gix_nI (by omega) (by omega)
  have g4 : gix (nI i + 4) XL = true := by
    show gix (nI i + nI 4) XL = true
    rw [nI_add]
    exact gix_nI (by omega) (by omega)
  have g5 : gix (nI i + 5) XL = true := by
    show gix (nI i + nI 5) XL = true
    rw [nI_add]
    exact gix_nI (by omega) (by omega)
  obtain ⟨x, τ, υ, e1, e2, e3⟩ := ag_law σ hR
  unfold f_law_j377
  simp only [g1, g2, g3, g4, g5, ↓reduceIte, e1, e2, bindE]
  exact hk υ e3
theorem lj_390 {XL i : Nat} {xs : Nat → Int32} {k18 : Int32 → gS → Option Int32} {σ : gS} (hi : i + 6 ≤ XL) (hX : XL ≤ 3072) (hk : ∀ τ, R τ → k18 (nI i + 6) τ = some 1) (hR : R σ) : f_law_j390 XL xs k18 (nI i) σ = some 1 := by
  have g1 : gix (nI i + 1) XL = true := by
    show gix (nI i + nI 1) XL = true
    rw [nI_add]
    exact gix_nI (by omega) (by omega)
  have g2 : gix (nI i + 2) XL = true := by
    show gix (nI i + nI 2) XL = true
    rw [nI_add]
    exact gix_nI (by omega) (by omega)
  have g3 : gix (nI i + 3) XL = true := by
    show gix (nI i + nI 3) XL = true
    rw [nI_add]
    exact gix_nI (by omega) (by omega)
  have g4 : gix (nI i + 4) XL = true := by
    show gix (nI i + nI 4) XL = true
    rw [nI_add]
    exact gix_nI (by omega) (by omega)
  have g5 : gix (nI i + 5) XL = true := by
    show gix (nI i + nI 5) XL = true
    rw [nI_add]
    exact gix_nI (by omega) (by omega)
  obtain ⟨x, τ, υ, e1, e2, e3⟩ := ag_says (xs (nI i + (1)).toNatClampNeg) σ hR
  unfold f_law_j390
  simp only [g1, g2, g3, g4, g5, ↓reduceIte, e1, e2, bindE]
  exact hk υ e3
theorem lj_413 {XL i : Nat} {xs : Nat → Int32} {k18 : Int32 → gS → Option Int32} {σ : gS} (hi : i + 6 ≤ XL) (hX : XL ≤ 3072) (hk : ∀ τ, R τ → k18 (nI i + 6) τ = some 1) (hR : R σ) : f_law_j413 XL xs k18 (nI i) σ = some 1 := by
  have g1 : gix (nI i + 1) XL = true := by
    show gix (nI i + nI 1) XL = true
    rw [nI_add]
    exact gix_nI (by omega) (by omega)
  have g2 : gix (nI i + 2) XL = true := by
    show gix (nI i + nI 2) XL = true
    rw [nI_add]
    exact gix_nI (by omega) (by omega)
  have g3 : gix (nI i + 3) XL = true := by
    show gix (nI i + nI 3) XL = true
    rw [nI_add]
    exact gix_nI (by omega) (by omega)
  have g4 : gix (nI i + 4) XL = true := by
    show gix (nI i + nI 4) XL = true
    rw [nI_add]
    exact gix_nI (by omega) (by omega)
  have g5 : gix (nI i + 5) XL = true := by
    show gix (nI i + nI 5) XL = true
    rw [nI_add]
    exact gix_nI (by omega) (by omega)
  obtain ⟨x, τ, υ, e1, e2, e3⟩ := ag_all (xs (nI i + (1)).toNatClampNeg) σ hR
  unfold f_law_j413
  simp only [g1, g2, g3, g4, g5, ↓reduceIte, e1, e2, bindE]
  exact hk υ e3
theorem lj_436 {XL i : Nat} {xs : Nat → Int32} {k18 : Int32 → gS → Option Int32} {σ : gS} (hi : i + 6 ≤ XL) (hX : XL ≤ 3072) (hk : ∀ τ, R τ → k18 (nI i + 6) τ = some 1) (hR : R σ) : f_law_j436 XL xs k18 (nI i) σ = some 1 := by
  have g1 : gix (nI i + 1) XL = true := by
    show gix (nI i + nI 1) XL = true
    rw [nI_add]
    exact gix_nI (by omega) (by omega)
  have g2 : gix (nI i + 2) XL = true := by
    show gix (nI i + nI 2) XL = true
    rw [nI_add]
    exact gix_nI (by omega) (by omega)
  have g3 : gix (nI i + 3) XL = true := by
    show gix (nI i + nI 3) XL = true
    rw [nI_add]
    exact gix_nI (by omega) (by omega)
  have g4 : gix (nI i + 4) XL = true := by
    show gix (nI i + nI 4) XL = true
    rw [nI_add]
    exact gix_nI (by omega) (by omega)
  have g5 : gix (nI i + 5) XL = true := by
    show gix (nI i + nI 5) XL = true
    rw [nI_add]
    exact gix_nI (by omega) (by omega)
  obtain ⟨x, τ, υ, e1, e2, e3⟩ := ag_saying (xs (nI i + (1)).toNatClampNeg) σ hR
  unfold f_law_j436
  simp only [g1, g2, g3, g4, g5, ↓reduceIte, e1, e2, bindE]
  exact hk υ e3
theorem lj_459 {XL i : Nat} {xs : Nat → Int32} {k18 : Int32 → gS → Option Int32} {σ : gS} (hi : i + 6 ≤ XL) (hX : XL ≤ 3072) (hk : ∀ τ, R τ → k18 (nI i + 6) τ = some 1) (hR : R σ) : f_law_j459 XL xs k18 (nI i) σ = some 1 := by
  have g1 : gix (nI i + 1) XL = true := by
    show gix (nI i + nI 1) XL = true
    rw [nI_add]
    exact gix_nI (by omega) (by omega)
  have g2 : gix (nI i + 2) XL = true := by
    show gix (nI i + nI 2) XL = true
    rw [nI_add]
    exact gix_nI (by omega) (by omega)
  have g3 : gix (nI i + 3) XL = true := by
    show gix (nI i + nI 3) XL = true
    rw [nI_add]
    exact gix_nI (by omega) (by omega)
  have g4 : gix (nI i + 4) XL = true := by
    show gix (nI i + nI 4) XL = true
    rw [nI_add]
    exact gix_nI (by omega) (by omega)
  have g5 : gix (nI i + 5) XL = true := by
    show gix (nI i + nI 5) XL = true
    rw [nI_add]
    exact gix_nI (by omega) (by omega)
  obtain ⟨x, τ, υ, e1, e2, e3⟩ := ag_claims (xs (nI i + (1)).toNatClampNeg) (xs (nI i + (2)).toNatClampNeg) (xs (nI i + (3)).toNatClampNeg) σ hR
  unfold f_law_j459
  simp only [g1, g2, g3, g4, g5, ↓reduceIte, e1, e2, bindE]
  exact hk υ e3
theorem lj_502 {XL i : Nat} {xs : Nat → Int32} {k18 : Int32 → gS → Option Int32} {σ : gS} (hi : i + 6 ≤ XL) (hX : XL ≤ 3072) (hk : ∀ τ, R τ → k18 (nI i + 6) τ = some 1) (hR : R σ) : f_law_j502 XL xs k18 (nI i) σ = some 1 := by
  have g1 : gix (nI i + 1) XL = true := by
    show gix (nI i + nI 1) XL = true
    rw [nI_add]
    exact gix_nI (by omega) (by omega)
  have g2 : gix (nI i + 2) XL = true := by
    show gix (nI i + nI 2) XL = true
    rw [nI_add]
    exact gix_nI (by omega) (by omega)
  have g3 : gix (nI i + 3) XL = true := by
    show gix (nI i + nI 3) XL = true
    rw [nI_add]
    exact gix_nI (by omega) (by omega)
  have g4 : gix (nI i + 4) XL = true := by
    show gix (nI i + nI 4) XL = true
    rw [nI_add]
    exact gix_nI (by omega) (by omega)
  have g5 : gix (nI i + 5) XL = true := by
    show gix (nI i + nI 5) XL = true
    rw [nI_add]
    exact gix_nI (by omega) (by omega)
  obtain ⟨x, τ, υ, e1, e2, e3⟩ := ag_happens (xs (nI i + (1)).toNatClampNeg) (xs (nI i + (2)).toNatClampNeg) σ hR
  unfold f_law_j502
  simp only [g1, g2, g3, g4, g5, ↓reduceIte, e1, e2, bindE]
  exact hk υ e3
theorem lj_535 {XL i : Nat} {xs : Nat → Int32} {k18 : Int32 → gS → Option Int32} {σ : gS} (hi : i + 6 ≤ XL) (hX : XL ≤ 3072) (hk : ∀ τ, R τ → k18 (nI i + 6) τ = some 1) (hR : R σ) : f_law_j535 XL xs k18 (nI i) σ = some 1 := by
  have g1 : gix (nI i + 1) XL = true := by
    show gix (nI i + nI 1) XL = true
    rw [nI_add]
    exact gix_nI (by omega) (by omega)
  have g2 : gix (nI i + 2) XL = true := by
    show gix (nI i + nI 2) XL = true
    rw [nI_add]
    exact gix_nI (by omega) (by omega)
  have g3 : gix (nI i + 3) XL = true := by
    show gix (nI i + nI 3) XL = true
    rw [nI_add]
    exact gix_nI (by omega) (by omega)
  have g4 : gix (nI i + 4) XL = true := by
    show gix (nI i + nI 4) XL = true
    rw [nI_add]
    exact gix_nI (by omega) (by omega)
  have g5 : gix (nI i + 5) XL = true := by
    show gix (nI i + nI 5) XL = true
    rw [nI_add]
    exact gix_nI (by omega) (by omega)
  obtain ⟨x, τ, υ, e1, e2, e3⟩ := ag_pay (xs (nI i + (1)).toNatClampNeg) (xs (nI i + (2)).toNatClampNeg) σ hR
  unfold f_law_j535
  simp only [g1, g2, g3, g4, g5, ↓reduceIte, e1, e2, bindE]
  exact hk υ e3
theorem lj_568 {XL i : Nat} {xs : Nat → Int32} {k18 : Int32 → gS → Option Int32} {σ : gS} (hi : i + 6 ≤ XL) (hX : XL ≤ 3072) (hk : ∀ τ, R τ → k18 (nI i + 6) τ = some 1) (hR : R σ) : f_law_j568 XL xs k18 (nI i) σ = some 1 := by
  have g1 : gix (nI i + 1) XL = true := by
    show gix (nI i + nI 1) XL = true
    rw [nI_add]
    exact gix_nI (by omega) (by omega)
  have g2 : gix (nI i + 2) XL = true := by
    show gix (nI i + nI 2) XL = true
    rw [nI_add]
    exact gix_nI (by omega) (by omega)
  have g3 : gix (nI i + 3) XL = true := by
    show gix (nI i + nI 3) XL = true
    rw [nI_add]
    exact gix_nI (by omega) (by omega)
  have g4 : gix (nI i + 4) XL = true := by
    show gix (nI i + nI 4) XL = true
    rw [nI_add]
    exact gix_nI (by omega) (by omega)
  have g5 : gix (nI i + 5) XL = true := by
    show gix (nI i + nI 5) XL = true
    rw [nI_add]
    exact gix_nI (by omega) (by omega)
  obtain ⟨x, τ, υ, e1, e2, e3⟩ := ag_payBoth (xs (nI i + (1)).toNatClampNeg) (xs (nI i + (2)).toNatClampNeg) σ hR
  unfold f_law_j568
  simp only [g1, g2, g3, g4, g5, ↓reduceIte, e1, e2, bindE]
  exact hk υ e3
theorem lj_601 {XL i : Nat} {xs : Nat → Int32} {k18 : Int32 → gS → Option Int32} {σ : gS} (hi : i + 6 ≤ XL) (hX : XL ≤ 3072) (hk : ∀ τ, R τ → k18 (nI i + 6) τ = some 1) (hR : R σ) : f_law_j601 XL xs k18 (nI i) σ = some 1 := by
  have g1 : gix (nI i + 1) XL = true := by
    show gix (nI i + nI 1) XL = true
    rw [nI_add]
    exact gix_nI (by omega) (by omega)
  have g2 : gix (nI i + 2) XL = true := by
    show gix (nI i + nI 2) XL = true
    rw [nI_add]
    exact gix_nI (by omega) (by omega)
  have g3 : gix (nI i + 3) XL = true := by
    show gix (nI i + nI 3) XL = true
    rw [nI_add]
    exact gix_nI (by omega) (by omega)
  have g4 : gix (nI i + 4) XL = true := by
    show gix (nI i + nI 4) XL = true
    rw [nI_add]
    exact gix_nI (by omega) (by omega)
  have g5 : gix (nI i + 5) XL = true := by
    show gix (nI i + nI 5) XL = true
    rw [nI_add]
    exact gix_nI (by omega) (by omega)
  obtain ⟨x, τ, υ, e1, e2, e3⟩ := ag_pairs (xs (nI i + (1)).toNatClampNeg) σ hR
  unfold f_law_j601
  simp only [g1, g2, g3, g4, g5, ↓reduceIte, e1, e2, bindE]
  exact hk υ e3
theorem lj_624 {XL i : Nat} {xs : Nat → Int32} {k18 : Int32 → gS → Option Int32} {σ : gS} (hi : i + 6 ≤ XL) (hX : XL ≤ 3072) (hk : ∀ τ, R τ → k18 (nI i + 6) τ = some 1) (hR : R σ) : f_law_j624 XL xs k18 (nI i) σ = some 1 := by
  have g1 : gix (nI i + 1) XL = true := by
    show gix (nI i + nI 1) XL = true
    rw [nI_add]
    exact gix_nI (by omega) (by omega)
  have g2 : gix (nI i + 2) XL = true := by
    show gix (nI i + nI 2) XL = true
    rw [nI_add]
    exact gix_nI (by omega) (by omega)
  have g3 : gix (nI i + 3) XL = true := by
    show gix (nI i + nI 3) XL = true
    rw [nI_add]
    exact gix_nI (by omega) (by omega)
  have g4 : gix (nI i + 4) XL = true := by
    show gix (nI i + nI 4) XL = true
    rw [nI_add]
    exact gix_nI (by omega) (by omega)
  have g5 : gix (nI i + 5) XL = true := by
    show gix (nI i + nI 5) XL = true
    rw [nI_add]
    exact gix_nI (by omega) (by omega)
  obtain ⟨x, τ, υ, e1, e2, e3⟩ := ag_strangers (xs (nI i + (1)).toNatClampNeg) σ hR
  unfold f_law_j624
  simp only [g1, g2, g3, g4, g5, ↓reduceIte, e1, e2, bindE]
  exact hk υ e3
theorem lj_647 {XL i : Nat} {xs : Nat → Int32} {k18 : Int32 → gS → Option Int32} {σ : gS} (hi : i + 6 ≤ XL) (hX : XL ≤ 3072) (hk : ∀ τ, R τ → k18 (nI i + 6) τ = some 1) (hR : R σ) : f_law_j647 XL xs k18 (nI i) σ = some 1 := by
  have g1 : gix (nI i + 1) XL = true := by
    show gix (nI i + nI 1) XL = true
    rw [nI_add]
    exact gix_nI (by omega) (by omega)
  have g2 : gix (nI i + 2) XL = true := by
    show gix (nI i + nI 2) XL = true
    rw [nI_add]
    exact gix_nI (by omega) (by omega)
  have g3 : gix (nI i + 3) XL = true := by
    show gix (nI i + nI 3) XL = true
    rw [nI_add]
    exact gix_nI (by omega) (by omega)
  have g4 : gix (nI i + 4) XL = true := by
    show gix (nI i + nI 4) XL = true
    rw [nI_add]
    exact gix_nI (by omega) (by omega)
  have g5 : gix (nI i + 5) XL = true := by
    show gix (nI i + nI 5) XL = true
    rw [nI_add]
    exact gix_nI (by omega) (by omega)
  obtain ⟨x, e1, e2⟩ := ag_likely (xs (nI i + (1)).toNatClampNeg) (xs (nI i + (2)).toNatClampNeg) (xs (nI i + (3)).toNatClampNeg) σ hR
  unfold f_law_j647
  simp only [g1, g2, g3, g4, g5, ↓reduceIte, e1, e2, bindE, cmp_self]
  exact hk σ hR
theorem lj_691 {XL i : Nat} {xs : Nat → Int32} {k18 : Int32 → gS → Option Int32} {σ : gS} (hi : i + 6 ≤ XL) (hX : XL ≤ 3072) (hk : ∀ τ, R τ → k18 (nI i + 6) τ = some 1) (hR : R σ) : f_law_j691 XL xs k18 (nI i) σ = some 1 := by
  have g1 : gix (nI i + 1) XL = true := by
    show gix (nI i + nI 1) XL = true
    rw [nI_add]
    exact gix_nI (by omega) (by omega)
  have g2 : gix (nI i + 2) XL = true := by
    show gix (nI i + nI 2) XL = true
    rw [nI_add]
    exact gix_nI (by omega) (by omega)
  have g3 : gix (nI i + 3) XL = true := by
    show gix (nI i + nI 3) XL = true
    rw [nI_add]
    exact gix_nI (by omega) (by omega)
  have g4 : gix (nI i + 4) XL = true := by
    show gix (nI i + nI 4) XL = true
    rw [nI_add]
    exact gix_nI (by omega) (by omega)
  have g5 : gix (nI i + 5) XL = true := by
    show gix (nI i + nI 5) XL = true
    rw [nI_add]
    exact gix_nI (by omega) (by omega)
  obtain ⟨x, e1, e2⟩ := ag_liars (xs (nI i + (1)).toNatClampNeg) (xs (nI i + (2)).toNatClampNeg) σ hR
  unfold f_law_j691
  simp only [g1, g2, g3, g4, g5, ↓reduceIte, e1, e2, bindE, cmp_self]
  exact hk σ hR
theorem lj_724 {XL i : Nat} {xs : Nat → Int32} {k18 : Int32 → gS → Option Int32} {σ : gS} (hi : i + 6 ≤ XL) (hX : XL ≤ 3072) (hk : ∀ τ, R τ → k18 (nI i + 6) τ = some 1) (hR : R σ) : f_law_j724 XL xs k18 (nI i) σ = some 1 := by
  have g1 : gix (nI i + 1) XL = true := by
    show gix (nI i + nI 1) XL = true
    rw [nI_add]
    exact gix_nI (by omega) (by omega)
  have g2 : gix (nI i + 2) XL = true := by
    show gix (nI i + nI 2) XL = true
    rw [nI_add]
    exact gix_nI (by omega) (by omega)
  have g3 : gix (nI i + 3) XL = true := by
    show gix (nI i + nI 3) XL = true
    rw [nI_add]
    exact gix_nI (by omega) (by omega)
  have g4 : gix (nI i + 4) XL = true := by
    show gix (nI i + nI 4) XL = true
    rw [nI_add]
    exact gix_nI (by omega) (by omega)
  have g5 : gix (nI i + 5) XL = true := by
    show gix (nI i + nI 5) XL = true
    rw [nI_add]
    exact gix_nI (by omega) (by omega)
  obtain ⟨x, τ, υ, e1, e2, e3⟩ := ag_days (xs (nI i + (1)).toNatClampNeg) (xs (nI i + (2)).toNatClampNeg) σ hR
  unfold f_law_j724
  simp only [g1, g2, g3, g4, g5, ↓reduceIte, e1, e2, bindE]
  exact hk υ e3
theorem lj_757 {XL i : Nat} {xs : Nat → Int32} {k18 : Int32 → gS → Option Int32} {σ : gS} (hi : i + 6 ≤ XL) (hX : XL ≤ 3072) (hk : ∀ τ, R τ → k18 (nI i + 6) τ = some 1) (hR : R σ) : f_law_j757 XL xs k18 (nI i) σ = some 1 := by
  have g1 : gix (nI i + 1) XL = true := by
    show gix (nI i + nI 1) XL = true
    rw [nI_add]
    exact gix_nI (by omega) (by omega)
  have g2 : gix (nI i + 2) XL = true := by
    show gix (nI i + nI 2) XL = true
    rw [nI_add]
    exact gix_nI (by omega) (by omega)
  have g3 : gix (nI i + 3) XL = true := by
    show gix (nI i + nI 3) XL = true
    rw [nI_add]
    exact gix_nI (by omega) (by omega)
  have g4 : gix (nI i + 4) XL = true := by
    show gix (nI i + nI 4) XL = true
    rw [nI_add]
    exact gix_nI (by omega) (by omega)
  have g5 : gix (nI i + 5) XL = true := by
    show gix (nI i + nI 5) XL = true
    rw [nI_add]
    exact gix_nI (by omega) (by omega)
  obtain ⟨x, τ, υ, e1, e2, e3⟩ := ag_judge (xs (nI i + (1)).toNatClampNeg) σ hR
  unfold f_law_j757
  simp only [g1, g2, g3, g4, g5, ↓reduceIte, e1, e2, bindE]
  exact hk υ e3
theorem lj_780 {XL i : Nat} {xs : Nat → Int32} {k18 : Int32 → gS → Option Int32} {σ : gS} (hi : i + 6 ≤ XL) (hX : XL ≤ 3072) (hk : ∀ τ, R τ → k18 (nI i + 6) τ = some 1) (hR : R σ) : f_law_j780 XL xs k18 (nI i) σ = some 1 := by
  have g1 : gix (nI i + 1) XL = true := by
    show gix (nI i + nI 1) XL = true
    rw [nI_add]
    exact gix_nI (by omega) (by omega)
  have g2 : gix (nI i + 2) XL = true := by
    show gix (nI i + nI 2) XL = true
    rw [nI_add]
    exact gix_nI (by omega) (by omega)
  have g3 : gix (nI i + 3) XL = true := by
    show gix (nI i + nI 3) XL = true
    rw [nI_add]
    exact gix_nI (by omega) (by omega)
  have g4 : gix (nI i + 4) XL = true := by
    show gix (nI i + nI 4) XL = true
    rw [nI_add]
    exact gix_nI (by omega) (by omega)
  have g5 : gix (nI i + 5) XL = true := by
    show gix (nI i + nI 5) XL = true
    rw [nI_add]
    exact gix_nI (by omega) (by omega)
  obtain ⟨x, τ, υ, e1, e2, e3⟩ := ag_fits (xs (nI i + (1)).toNatClampNeg) (xs (nI i + (2)).toNatClampNeg) (xs (nI i + (3)).toNatClampNeg) σ hR
  unfold f_law_j780
  simp only [g1, g2, g3, g4, g5, ↓reduceIte, e1, e2, bindE]
  exact hk υ e3
theorem lj_823 {XL i : Nat} {xs : Nat → Int32} {k18 : Int32 → gS → Option Int32} {σ : gS} (hi : i + 6 ≤ XL) (hX : XL ≤ 3072) (hk : ∀ τ, R τ → k18 (nI i + 6) τ = some 1) (hR : R σ) : f_law_j823 XL xs k18 (nI i) σ = some 1 := by
  have g1 : gix (nI i + 1) XL = true := by
    show gix (nI i + nI 1) XL = true
    rw [nI_add]
    exact gix_nI (by omega) (by omega)
  have g2 : gix (nI i + 2) XL = true := by
    show gix (nI i + nI 2) XL = true
    rw [nI_add]
    exact gix_nI (by omega) (by omega)
  have g3 : gix (nI i + 3) XL = true := by
    show gix (nI i + nI 3) XL = true
    rw [nI_add]
    exact gix_nI (by omega) (by omega)
  have g4 : gix (nI i + 4) XL = true := by
    show gix (nI i + nI 4) XL = true
    rw [nI_add]
    exact gix_nI (by omega) (by omega)
  have g5 : gix (nI i + 5) XL = true := by
    show gix (nI i + nI 5) XL = true
    rw [nI_add]
    exact gix_nI (by omega) (by omega)
  obtain ⟨x, τ, υ, e1, e2, e3⟩ := ag_byTurns (xs (nI i + (1)).toNatClampNeg) (xs (nI i + (2)).toNatClampNeg) (xs (nI i + (3)).toNatClampNeg) σ hR
  unfold f_law_j823
  simp only [g1, g2, g3, g4, g5, ↓reduceIte, e1, e2, bindE]
  exact hk υ e3
theorem lj_866 {XL i : Nat} {xs : Nat → Int32} {k18 : Int32 → gS → Option Int32} {σ : gS} (hi : i + 6 ≤ XL) (hX : XL ≤ 3072) (hk : ∀ τ, R τ → k18 (nI i + 6) τ = some 1) (hR : R σ) : f_law_j866 XL xs k18 (nI i) σ = some 1 := by
  have g1 : gix (nI i + 1) XL = true := by
    show gix (nI i + nI 1) XL = true
    rw [nI_add]
    exact gix_nI (by omega) (by omega)
  have g2 : gix (nI i + 2) XL = true := by
    show gix (nI i + nI 2) XL = true
    rw [nI_add]
    exact gix_nI (by omega) (by omega)
  have g3 : gix (nI i + 3) XL = true := by
    show gix (nI i + nI 3) XL = true
    rw [nI_add]
    exact gix_nI (by omega) (by omega)
  have g4 : gix (nI i + 4) XL = true := by
    show gix (nI i + nI 4) XL = true
    rw [nI_add]
    exact gix_nI (by omega) (by omega)
  have g5 : gix (nI i + 5) XL = true := by
    show gix (nI i + nI 5) XL = true
    rw [nI_add]
    exact gix_nI (by omega) (by omega)
  obtain ⟨x, τ, υ, e1, e2, e3⟩ := ag_drawn (xs (nI i + (1)).toNatClampNeg) (xs (nI i + (2)).toNatClampNeg) (xs (nI i + (3)).toNatClampNeg) σ hR
  unfold f_law_j866
  simp only [g1, g2, g3, g4, g5, ↓reduceIte, e1, e2, bindE]
  exact hk υ e3
theorem lj_909 {XL i : Nat} {xs : Nat → Int32} {k18 : Int32 → gS → Option Int32} {σ : gS} (hi : i + 6 ≤ XL) (hX : XL ≤ 3072) (hk : ∀ τ, R τ → k18 (nI i + 6) τ = some 1) (hR : R σ) : f_law_j909 XL xs k18 (nI i) σ = some 1 := by
  have g1 : gix (nI i + 1) XL = true := by
    show gix (nI i + nI 1) XL = true
    rw [nI_add]
    exact gix_nI (by omega) (by omega)
  have g2 : gix (nI i + 2) XL = true := by
    show gix (nI i + nI 2) XL = true
    rw [nI_add]
    exact gix_nI (by omega) (by omega)
  have g3 : gix (nI i + 3) XL = true := by
    show gix (nI i + nI 3) XL = true
    rw [nI_add]
    exact gix_nI (by omega) (by omega)
  have g4 : gix (nI i + 4) XL = true := by
    show gix (nI i + nI 4) XL = true
    rw [nI_add]
    exact gix_nI (by omega) (by omega)
  have g5 : gix (nI i + 5) XL = true := by
    show gix (nI i + nI 5) XL = true
    rw [nI_add]
    exact gix_nI (by omega) (by omega)
  obtain ⟨x, τ, υ, e1, e2, e3⟩ := ag_claim (xs (nI i + (1)).toNatClampNeg) σ hR
  unfold f_law_j909
  simp only [g1, g2, g3, g4, g5, ↓reduceIte, e1, e2, bindE]
  exact hk υ e3
theorem lj_932 {XL i : Nat} {xs : Nat → Int32} {k18 : Int32 → gS → Option Int32} {σ : gS} (hi : i + 6 ≤ XL) (hX : XL ≤ 3072) (hk : ∀ τ, R τ → k18 (nI i + 6) τ = some 1) (hR : R σ) : f_law_j932 XL xs k18 (nI i) σ = some 1 := by
  have g1 : gix (nI i + 1) XL = true := by
    show gix (nI i + nI 1) XL = true
    rw [nI_add]
    exact gix_nI (by omega) (by omega)
  have g2 : gix (nI i + 2) XL = true := by
    show gix (nI i + nI 2) XL = true
    rw [nI_add]
    exact gix_nI (by omega) (by omega)
  have g3 : gix (nI i + 3) XL = true := by
    show gix (nI i + nI 3) XL = true
    rw [nI_add]
    exact gix_nI (by omega) (by omega)
  have g4 : gix (nI i + 4) XL = true := by
    show gix (nI i + nI 4) XL = true
    rw [nI_add]
    exact gix_nI (by omega) (by omega)
  have g5 : gix (nI i + 5) XL = true := by
    show gix (nI i + nI 5) XL = true
    rw [nI_add]
    exact gix_nI (by omega) (by omega)
  obtain ⟨x, τ, υ, e1, e2, e3⟩ := ag_ends σ hR
  unfold f_law_j932
  simp only [g1, g2, g3, g4, g5, ↓reduceIte, e1, e2, bindE]
  exact hk υ e3
theorem lj_945 {XL i : Nat} {xs : Nat → Int32} {k18 : Int32 → gS → Option Int32} {σ : gS} (hi : i + 6 ≤ XL) (hX : XL ≤ 3072) (hk : ∀ τ, R τ → k18 (nI i + 6) τ = some 1) (hR : R σ) : f_law_j945 XL xs k18 (nI i) σ = some 1 := by
  have g1 : gix (nI i + 1) XL = true := by
    show gix (nI i + nI 1) XL = true
    rw [nI_add]
    exact gix_nI (by omega) (by omega)
  have g2 : gix (nI i + 2) XL = true := by
    show gix (nI i + nI 2) XL = true
    rw [nI_add]
    exact gix_nI (by omega) (by omega)
  have g3 : gix (nI i + 3) XL = true := by
    show gix (nI i + nI 3) XL = true
    rw [nI_add]
    exact gix_nI (by omega) (by omega)
  have g4 : gix (nI i + 4) XL = true := by
    show gix (nI i + nI 4) XL = true
    rw [nI_add]
    exact gix_nI (by omega) (by omega)
  have g5 : gix (nI i + 5) XL = true := by
    show gix (nI i + nI 5) XL = true
    rw [nI_add]
    exact gix_nI (by omega) (by omega)
  obtain ⟨x, τ, υ, e1, e2, e3⟩ := ag_marry (xs (nI i + (1)).toNatClampNeg) σ hR
  unfold f_law_j945
  simp only [g1, g2, g3, g4, g5, ↓reduceIte, e1, e2, bindE]
  exact hk υ e3
theorem lj_968 {XL i : Nat} {xs : Nat → Int32} {k18 : Int32 → gS → Option Int32} {σ : gS} (hi : i + 6 ≤ XL) (hX : XL ≤ 3072) (hk : ∀ τ, R τ → k18 (nI i + 6) τ = some 1) (hR : R σ) : f_law_j968 XL xs k18 (nI i) σ = some 1 := by
  have g1 : gix (nI i + 1) XL = true := by
    show gix (nI i + nI 1) XL = true
    rw [nI_add]
    exact gix_nI (by omega) (by omega)
  have g2 : gix (nI i + 2) XL = true := by
    show gix (nI i + nI 2) XL = true
    rw [nI_add]
    exact gix_nI (by omega) (by omega)
  have g3 : gix (nI i + 3) XL = true := by
    show gix (nI i + nI 3) XL = true
    rw [nI_add]
    exact gix_nI (by omega) (by omega)
  have g4 : gix (nI i + 4) XL = true := by
    show gix (nI i + nI 4) XL = true
    rw [nI_add]
    exact gix_nI (by omega) (by omega)
  have g5 : gix (nI i + 5) XL = true := by
    show gix (nI i + nI 5) XL = true
    rw [nI_add]
    exact gix_nI (by omega) (by omega)
  obtain ⟨x, τ, υ, e1, e2, e3⟩ := ag_paid (xs (nI i + (1)).toNatClampNeg) (xs (nI i + (2)).toNatClampNeg) σ hR
  unfold f_law_j968
  simp only [g1, g2, g3, g4, g5, ↓reduceIte, e1, e2, bindE]
  exact hk υ e3
theorem lj_1001 {XL i : Nat} {xs : Nat → Int32} {k18 : Int32 → gS → Option Int32} {σ : gS} (hi : i + 6 ≤ XL) (hX : XL ≤ 3072) (hk : ∀ τ, R τ → k18 (nI i + 6) τ = some 1) (hR : R σ) : f_law_j1001 XL xs k18 (nI i) σ = some 1 := by
  have g1 : gix (nI i + 1) XL = true := by
    show gix (nI i + nI 1) XL = true
    rw [nI_add]
    exact gix_nI (by omega) (by omega)
  have g2 : gix (nI i + 2) XL = true := by
    show gix (nI i + nI 2) XL = true
    rw [nI_add]
    exact gix_nI (by omega) (by omega)
  have g3 : gix (nI i + 3) XL = true := by
    show gix (nI i + nI 3) XL = true
    rw [nI_add]
    exact gix_nI (by omega) (by omega)
  have g4 : gix (nI i + 4) XL = true := by
    show gix (nI i + nI 4) XL = true
    rw [nI_add]
    exact gix_nI (by omega) (by omega)
  have g5 : gix (nI i + 5) XL = true := by
    show gix (nI i + nI 5) XL = true
    rw [nI_add]
    exact gix_nI (by omega) (by omega)
  obtain ⟨x, e1, e2⟩ := ag_led (xs (nI i + (1)).toNatClampNeg) σ hR
  unfold f_law_j1001
  simp only [g1, g2, g3, g4, g5, ↓reduceIte, e1, e2, bindE, cmp_self]
  exact hk σ hR
theorem lj_1024 {XL i : Nat} {xs : Nat → Int32} {k18 : Int32 → gS → Option Int32} {σ : gS} (hi : i + 6 ≤ XL) (hX : XL ≤ 3072) (hk : ∀ τ, R τ → k18 (nI i + 6) τ = some 1) (hR : R σ) : f_law_j1024 XL xs k18 (nI i) σ = some 1 := by
  have g1 : gix (nI i + 1) XL = true := by
    show gix (nI i + nI 1) XL = true
    rw [nI_add]
    exact gix_nI (by omega) (by omega)
  have g2 : gix (nI i + 2) XL = true := by
    show gix (nI i + nI 2) XL = true
    rw [nI_add]
    exact gix_nI (by omega) (by omega)
  have g3 : gix (nI i + 3) XL = true := by
    show gix (nI i + nI 3) XL = true
    rw [nI_add]
    exact gix_nI (by omega) (by omega)
  have g4 : gix (nI i + 4) XL = true := by
    show gix (nI i + nI 4) XL = true
    rw [nI_add]
    exact gix_nI (by omega) (by omega)
  have g5 : gix (nI i + 5) XL = true := by
    show gix (nI i + nI 5) XL = true
    rw [nI_add]
    exact gix_nI (by omega) (by omega)
  obtain ⟨x, τ, υ, e1, e2, e3⟩ := ag_image σ hR
  unfold f_law_j1024
  simp only [g1, g2, g3, g4, g5, ↓reduceIte, e1, e2, bindE]
  exact hk υ e3
theorem lj_1037 {XL i : Nat} {xs : Nat → Int32} {k18 : Int32 → gS → Option Int32} {σ : gS} (hi : i + 6 ≤ XL) (hX : XL ≤ 3072) (hk : ∀ τ, R τ → k18 (nI i + 6) τ = some 1) (hR : R σ) : f_law_j1037 XL xs k18 (nI i) σ = some 1 := by
  have g1 : gix (nI i + 1) XL = true := by
    show gix (nI i + nI 1) XL = true
    rw [nI_add]
    exact gix_nI (by omega) (by omega)
  have g2 : gix (nI i + 2) XL = true := by
    show gix (nI i + nI 2) XL = true
    rw [nI_add]
    exact gix_nI (by omega) (by omega)
  have g3 : gix (nI i + 3) XL = true := by
    show gix (nI i + nI 3) XL = true
    rw [nI_add]
    exact gix_nI (by omega) (by omega)
  have g4 : gix (nI i + 4) XL = true := by
    show gix (nI i + nI 4) XL = true
    rw [nI_add]
    exact gix_nI (by omega) (by omega)
  have g5 : gix (nI i + 5) XL = true := by
    show gix (nI i + nI 5) XL = true
    rw [nI_add]
    exact gix_nI (by omega) (by omega)
  obtain ⟨x, τ, υ, e1, e2, e3⟩ := ag_back σ hR
  unfold f_law_j1037
  simp only [g1, g2, g3, g4, g5, ↓reduceIte, e1, e2, bindE]
  exact hk υ e3
theorem lj_1050 {XL i : Nat} {xs : Nat → Int32} {k18 : Int32 → gS → Option Int32} {σ : gS} (hi : i + 6 ≤ XL) (hX : XL ≤ 3072) (hk : ∀ τ, R τ → k18 (nI i + 6) τ = some 1) (hR : R σ) : f_law_j1050 XL xs k18 (nI i) σ = some 1 := by
  have g1 : gix (nI i + 1) XL = true := by
    show gix (nI i + nI 1) XL = true
    rw [nI_add]
    exact gix_nI (by omega) (by omega)
  have g2 : gix (nI i + 2) XL = true := by
    show gix (nI i + nI 2) XL = true
    rw [nI_add]
    exact gix_nI (by omega) (by omega)
  have g3 : gix (nI i + 3) XL = true := by
    show gix (nI i + nI 3) XL = true
    rw [nI_add]
    exact gix_nI (by omega) (by omega)
  have g4 : gix (nI i + 4) XL = true := by
    show gix (nI i + nI 4) XL = true
    rw [nI_add]
    exact gix_nI (by omega) (by omega)
  have g5 : gix (nI i + 5) XL = true := by
    show gix (nI i + nI 5) XL = true
    rw [nI_add]
    exact gix_nI (by omega) (by omega)
  obtain ⟨x, τ, υ, e1, e2, e3⟩ := ag_undo σ hR
  unfold f_law_j1050
  simp only [g1, g2, g3, g4, g5, ↓reduceIte, e1, e2, bindE]
  exact hk υ e3
theorem lj_1063 {XL i : Nat} {xs : Nat → Int32} {k18 : Int32 → gS → Option Int32} {σ : gS} (hi : i + 6 ≤ XL) (hX : XL ≤ 3072) (hk : ∀ τ, R τ → k18 (nI i + 6) τ = some 1) (hR : R σ) : f_law_j1063 XL xs k18 (nI i) σ = some 1 := by
  have g1 : gix (nI i + 1) XL = true := by
    show gix (nI i + nI 1) XL = true
    rw [nI_add]
    exact gix_nI (by omega) (by omega)
  have g2 : gix (nI i + 2) XL = true := by
    show gix (nI i + nI 2) XL = true
    rw [nI_add]
    exact gix_nI (by omega) (by omega)
  have g3 : gix (nI i + 3) XL = true := by
    show gix (nI i + nI 3) XL = true
    rw [nI_add]
    exact gix_nI (by omega) (by omega)
  have g4 : gix (nI i + 4) XL = true := by
    show gix (nI i + nI 4) XL = true
    rw [nI_add]
    exact gix_nI (by omega) (by omega)
  have g5 : gix (nI i + 5) XL = true := by
    show gix (nI i + nI 5) XL = true
    rw [nI_add]
    exact gix_nI (by omega) (by omega)
  obtain ⟨x, τ, υ, e1, e2, e3⟩ := ag_redo σ hR
  unfold f_law_j1063
  simp only [g1, g2, g3, g4, g5, ↓reduceIte, e1, e2, bindE]
  exact hk υ e3
theorem lj_1076 {XL i : Nat} {xs : Nat → Int32} {k18 : Int32 → gS → Option Int32} {σ : gS} (hi : i + 6 ≤ XL) (hX : XL ≤ 3072) (hk : ∀ τ, R τ → k18 (nI i + 6) τ = some 1) (hR : R σ) : f_law_j1076 XL xs k18 (nI i) σ = some 1 := by
  have g1 : gix (nI i + 1) XL = true := by
    show gix (nI i + nI 1) XL = true
    rw [nI_add]
    exact gix_nI (by omega) (by omega)
  have g2 : gix (nI i + 2) XL = true := by
    show gix (nI i + nI 2) XL = true
    rw [nI_add]
    exact gix_nI (by omega) (by omega)
  have g3 : gix (nI i + 3) XL = true := by
    show gix (nI i + nI 3) XL = true
    rw [nI_add]
    exact gix_nI (by omega) (by omega)
  have g4 : gix (nI i + 4) XL = true := by
    show gix (nI i + nI 4) XL = true
    rw [nI_add]
    exact gix_nI (by omega) (by omega)
  have g5 : gix (nI i + 5) XL = true := by
    show gix (nI i + nI 5) XL = true
    rw [nI_add]
    exact gix_nI (by omega) (by omega)
  obtain ⟨x, τ, υ, e1, e2, e3⟩ := ag_body (xs (nI i + (1)).toNatClampNeg) σ hR
  unfold f_law_j1076
  simp only [g1, g2, g3, g4, g5, ↓reduceIte, e1, e2, bindE]
  exact hk υ e3
theorem lj_1099 {XL i : Nat} {xs : Nat → Int32} {k18 : Int32 → gS → Option Int32} {σ : gS} (hi : i + 6 ≤ XL) (hX : XL ≤ 3072) (hk : ∀ τ, R τ → k18 (nI i + 6) τ = some 1) (hR : R σ) : f_law_j1099 XL xs k18 (nI i) σ = some 1 := by
  have g1 : gix (nI i + 1) XL = true := by
    show gix (nI i + nI 1) XL = true
    rw [nI_add]
    exact gix_nI (by omega) (by omega)
  have g2 : gix (nI i + 2) XL = true := by
    show gix (nI i + nI 2) XL = true
    rw [nI_add]
    exact gix_nI (by omega) (by omega)
  have g3 : gix (nI i + 3) XL = true := by
    show gix (nI i + nI 3) XL = true
    rw [nI_add]
    exact gix_nI (by omega) (by omega)
  have g4 : gix (nI i + 4) XL = true := by
    show gix (nI i + nI 4) XL = true
    rw [nI_add]
    exact gix_nI (by omega) (by omega)
  have g5 : gix (nI i + 5) XL = true := by
    show gix (nI i + nI 5) XL = true
    rw [nI_add]
    exact gix_nI (by omega) (by omega)
  obtain ⟨x, τ, υ, e1, e2, e3⟩ := ag_act (xs (nI i + (1)).toNatClampNeg) (xs (nI i + (2)).toNatClampNeg) (xs (nI i + (3)).toNatClampNeg) σ hR
  unfold f_law_j1099
  simp only [g1, g2, g3, g4, g5, ↓reduceIte, e1, e2, bindE]
  exact hk υ e3
theorem lj_1142 {XL i : Nat} {xs : Nat → Int32} {k18 : Int32 → gS → Option Int32} {σ : gS} (hi : i + 6 ≤ XL) (hX : XL ≤ 3072) (hk : ∀ τ, R τ → k18 (nI i + 6) τ = some 1) (hR : R σ) : f_law_j1142 XL xs k18 (nI i) σ = some 1 := by
  have g1 : gix (nI i + 1) XL = true := by
    show gix (nI i + nI 1) XL = true
    rw [nI_add]
    exact gix_nI (by omega) (by omega)
  have g2 : gix (nI i + 2) XL = true := by
    show gix (nI i + nI 2) XL = true
    rw [nI_add]
    exact gix_nI (by omega) (by omega)
  have g3 : gix (nI i + 3) XL = true := by
    show gix (nI i + nI 3) XL = true
    rw [nI_add]
    exact gix_nI (by omega) (by omega)
  have g4 : gix (nI i + 4) XL = true := by
    show gix (nI i + nI 4) XL = true
    rw [nI_add]
    exact gix_nI (by omega) (by omega)
  have g5 : gix (nI i + 5) XL = true := by
    show gix (nI i + nI 5) XL = true
    rw [nI_add]
    exact gix_nI (by omega) (by omega)
  obtain ⟨x, e1, e2⟩ := ag_trace (xs (nI i + (1)).toNatClampNeg) σ hR
  unfold f_law_j1142
  simp only [g1, g2, g3, g4, g5, ↓reduceIte, e1, e2, bindE, cmp_self]
  exact hk σ hR
theorem lj_1165 {XL i : Nat} {xs : Nat → Int32} {k18 : Int32 → gS → Option Int32} {σ : gS} (hi : i + 6 ≤ XL) (hX : XL ≤ 3072) (hk : ∀ τ, R τ → k18 (nI i + 6) τ = some 1) (hR : R σ) : f_law_j1165 XL xs k18 (nI i) σ = some 1 := by
  have g1 : gix (nI i + 1) XL = true := by
    show gix (nI i + nI 1) XL = true
    rw [nI_add]
    exact gix_nI (by omega) (by omega)
  have g2 : gix (nI i + 2) XL = true := by
    show gix (nI i + nI 2) XL = true
    rw [nI_add]
    exact gix_nI (by omega) (by omega)
  have g3 : gix (nI i + 3) XL = true := by
    show gix (nI i + nI 3) XL = true
    rw [nI_add]
    exact gix_nI (by omega) (by omega)
  have g4 : gix (nI i + 4) XL = true := by
    show gix (nI i + nI 4) XL = true
    rw [nI_add]
    exact gix_nI (by omega) (by omega)
  have g5 : gix (nI i + 5) XL = true := by
    show gix (nI i + nI 5) XL = true
    rw [nI_add]
    exact gix_nI (by omega) (by omega)
  obtain ⟨x, τ, υ, e1, e2, e3⟩ := ag_keep (xs (nI i + (1)).toNatClampNeg) (xs (nI i + (2)).toNatClampNeg) σ hR
  unfold f_law_j1165
  simp only [g1, g2, g3, g4, g5, ↓reduceIte, e1, e2, bindE]
  exact hk υ e3
theorem lj_1198 {XL i : Nat} {xs : Nat → Int32} {k18 : Int32 → gS → Option Int32} {σ : gS} (hi : i + 6 ≤ XL) (hX : XL ≤ 3072) (hk : ∀ τ, R τ → k18 (nI i + 6) τ = some 1) (hR : R σ) : f_law_j1198 XL xs k18 (nI i) σ = some 1 := by
  have g1 : gix (nI i + 1) XL = true := by
    show gix (nI i + nI 1) XL = true
    rw [nI_add]
    exact gix_nI (by omega) (by omega)
  have g2 : gix (nI i + 2) XL = true := by
    show gix (nI i + nI 2) XL = true
    rw [nI_add]
    exact gix_nI (by omega) (by omega)
  have g3 : gix (nI i + 3) XL = true := by
    show gix (nI i + nI 3) XL = true
    rw [nI_add]
    exact gix_nI (by omega) (by omega)
  have g4 : gix (nI i + 4) XL = true := by
    show gix (nI i + nI 4) XL = true
    rw [nI_add]
    exact gix_nI (by omega) (by omega)
  have g5 : gix (nI i + 5) XL = true := by
    show gix (nI i + nI 5) XL = true
    rw [nI_add]
    exact gix_nI (by omega) (by omega)
  obtain ⟨x, τ, υ, e1, e2, e3⟩ := ag_row (xs (nI i + (1)).toNatClampNeg) (xs (nI i + (2)).toNatClampNeg) (xs (nI i + (3)).toNatClampNeg) σ hR
  unfold f_law_j1198
  simp only [g1, g2, g3, g4, g5, ↓reduceIte, e1, e2, bindE]
  exact hk υ e3
theorem lj_1241 {XL i : Nat} {xs : Nat → Int32} {k18 : Int32 → gS → Option Int32} {σ : gS} (hi : i + 6 ≤ XL) (hX : XL ≤ 3072) (hk : ∀ τ, R τ → k18 (nI i + 6) τ = some 1) (hR : R σ) : f_law_j1241 XL xs k18 (nI i) σ = some 1 := by
  have g1 : gix (nI i + 1) XL = true := by
    show gix (nI i + nI 1) XL = true
    rw [nI_add]
    exact gix_nI (by omega) (by omega)
  have g2 : gix (nI i + 2) XL = true := by
    show gix (nI i + nI 2) XL = true
    rw [nI_add]
    exact gix_nI (by omega) (by omega)
  have g3 : gix (nI i + 3) XL = true := by
    show gix (nI i + nI 3) XL = true
    rw [nI_add]
    exact gix_nI (by omega) (by omega)
  have g4 : gix (nI i + 4) XL = true := by
    show gix (nI i + nI 4) XL = true
    rw [nI_add]
    exact gix_nI (by omega) (by omega)
  have g5 : gix (nI i + 5) XL = true := by
    show gix (nI i + nI 5) XL = true
    rw [nI_add]
    exact gix_nI (by omega) (by omega)
  obtain ⟨x, τ, υ, e1, e2, e3⟩ := ag_put (xs (nI i + (1)).toNatClampNeg) (xs (nI i + (2)).toNatClampNeg) ((((xs (nI i + (3)).toNatClampNeg).toInt64) <<< ((32 : Int32).toInt64 &&& 63)) ||| (((xs (nI i + (4)).toNatClampNeg).toInt64) &&& (4294967295 : Int64))) σ hR
  unfold f_law_j1241
  simp only [g1, g2, g3, g4, g5, ↓reduceIte, e1, e2, bindE]
  exact hk υ e3
theorem lj_1314 {XL i : Nat} {xs : Nat → Int32} {k18 : Int32 → gS → Option Int32} {σ : gS} (hi : i + 6 ≤ XL) (hX : XL ≤ 3072) (hk : ∀ τ, R τ → k18 (nI i + 6) τ = some 1) (hR : R σ) : f_law_j1314 XL xs k18 (nI i) σ = some 1 := by
  have g1 : gix (nI i + 1) XL = true := by
    show gix (nI i + nI 1) XL = true
    rw [nI_add]
    exact gix_nI (by omega) (by omega)
  have g2 : gix (nI i + 2) XL = true := by
    show gix (nI i + nI 2) XL = true
    rw [nI_add]
    exact gix_nI (by omega) (by omega)
  have g3 : gix (nI i + 3) XL = true := by
    show gix (nI i + nI 3) XL = true
    rw [nI_add]
    exact gix_nI (by omega) (by omega)
  have g4 : gix (nI i + 4) XL = true := by
    show gix (nI i + nI 4) XL = true
    rw [nI_add]
    exact gix_nI (by omega) (by omega)
  have g5 : gix (nI i + 5) XL = true := by
    show gix (nI i + nI 5) XL = true
    rw [nI_add]
    exact gix_nI (by omega) (by omega)
  obtain ⟨x, e1, e2⟩ := ag_element (xs (nI i + (1)).toNatClampNeg) (xs (nI i + (2)).toNatClampNeg) σ hR
  unfold f_law_j1314
  simp only [g1, g2, g3, g4, g5, ↓reduceIte, e1, e2, bindE, cmp_self]
  exact hk σ hR
theorem lj_1348 {XL i : Nat} {xs : Nat → Int32} {k18 : Int32 → gS → Option Int32} {σ : gS} (hi : i + 6 ≤ XL) (hX : XL ≤ 3072) (hk : ∀ τ, R τ → k18 (nI i + 6) τ = some 1) (hR : R σ) : f_law_j1348 XL xs k18 (nI i) σ = some 1 := by
  have g1 : gix (nI i + 1) XL = true := by
    show gix (nI i + nI 1) XL = true
    rw [nI_add]
    exact gix_nI (by omega) (by omega)
  have g2 : gix (nI i + 2) XL = true := by
    show gix (nI i + nI 2) XL = true
    rw [nI_add]
    exact gix_nI (by omega) (by omega)
  have g3 : gix (nI i + 3) XL = true := by
    show gix (nI i + nI 3) XL = true
    rw [nI_add]
    exact gix_nI (by omega) (by omega)
  have g4 : gix (nI i + 4) XL = true := by
    show gix (nI i + nI 4) XL = true
    rw [nI_add]
    exact gix_nI (by omega) (by omega)
  have g5 : gix (nI i + 5) XL = true := by
    show gix (nI i + nI 5) XL = true
    rw [nI_add]
    exact gix_nI (by omega) (by omega)
  obtain ⟨x, τ, υ, e1, e2, e3⟩ := ag_shift (xs (nI i + (1)).toNatClampNeg) (xs (nI i + (2)).toNatClampNeg) (xs (nI i + (3)).toNatClampNeg) (xs (nI i + (4)).toNatClampNeg) (xs (nI i + (5)).toNatClampNeg) σ hR
  unfold f_law_j1348
  simp only [g1, g2, g3, g4, g5, ↓reduceIte, e1, e2, bindE]
  exact hk υ e3
theorem lj_1411 {XL i : Nat} {xs : Nat → Int32} {k18 : Int32 → gS → Option Int32} {σ : gS} (hi : i + 6 ≤ XL) (hX : XL ≤ 3072) (hk : ∀ τ, R τ → k18 (nI i + 6) τ = some 1) (hR : R σ) : f_law_j1411 XL xs k18 (nI i) σ = some 1 := by
  have g1 : gix (nI i + 1) XL = true := by
    show gix (nI i + nI 1) XL = true
    rw [nI_add]
    exact gix_nI (by omega) (by omega)
  have g2 : gix (nI i + 2) XL = true := by
    show gix (nI i + nI 2) XL = true
    rw [nI_add]
    exact gix_nI (by omega) (by omega)
  have g3 : gix (nI i + 3) XL = true := by
    show gix (nI i + nI 3) XL = true
    rw [nI_add]
    exact gix_nI (by omega) (by omega)
  have g4 : gix (nI i + 4) XL = true := by
    show gix (nI i + nI 4) XL = true
    rw [nI_add]
    exact gix_nI (by omega) (by omega)
  have g5 : gix (nI i + 5) XL = true := by
    show gix (nI i + nI 5) XL = true
    rw [nI_add]
    exact gix_nI (by omega) (by omega)
  obtain ⟨x, e1, e2⟩ := ag_taken (xs (nI i + (1)).toNatClampNeg) (xs (nI i + (2)).toNatClampNeg) σ hR
  unfold f_law_j1411
  simp only [g1, g2, g3, g4, g5, ↓reduceIte, e1, e2, bindE, cmp_self]
  exact hk σ hR
theorem lj_1444 {XL i : Nat} {xs : Nat → Int32} {k18 : Int32 → gS → Option Int32} {σ : gS} (hi : i + 6 ≤ XL) (hX : XL ≤ 3072) (hk : ∀ τ, R τ → k18 (nI i + 6) τ = some 1) (hR : R σ) : f_law_j1444 XL xs k18 (nI i) σ = some 1 := by
  have g1 : gix (nI i + 1) XL = true := by
    show gix (nI i + nI 1) XL = true
    rw [nI_add]
    exact gix_nI (by omega) (by omega)
  have g2 : gix (nI i + 2) XL = true := by
    show gix (nI i + nI 2) XL = true
    rw [nI_add]
    exact gix_nI (by omega) (by omega)
  have g3 : gix (nI i + 3) XL = true := by
    show gix (nI i + nI 3) XL = true
    rw [nI_add]
    exact gix_nI (by omega) (by omega)
  have g4 : gix (nI i + 4) XL = true := by
    show gix (nI i + nI 4) XL = true
    rw [nI_add]
    exact gix_nI (by omega) (by omega)
  have g5 : gix (nI i + 5) XL = true := by
    show gix (nI i + nI 5) XL = true
    rw [nI_add]
    exact gix_nI (by omega) (by omega)
  obtain ⟨x, e1, e2⟩ := ag_count (xs (nI i + (1)).toNatClampNeg) σ hR
  unfold f_law_j1444
  simp only [g1, g2, g3, g4, g5, ↓reduceIte, e1, e2, bindE, cmp_self]
  exact hk σ hR
theorem law_steps {XL : Nat} {xs : Nat → Int32} (h : XL ≤ 3072) : ∀ t fu i σ, R σ → i ≤ 4000 → XL ≤ i + 6 * t + 5 → t < fu → f_law_L18 XL xs fu (nI i) σ = some 1 := by
  intro t
  induction t with
  | zero =>
    intro fu i σ hR hi hx hf
    obtain ⟨f', rfl⟩ : ∃ f', fu = f' + 1 := ⟨fu - 1, by omega⟩
    rw [f_law_L18]
    have q : Int32.ofNat XL - 6 < nI i := by
      rw [i_lt, show (Int32.ofNat XL - 6).toInt = (XL : Int) - (6 : Nat) from nI_subI (a := XL) (b := 6) (by omega) (by omega), nI_toInt (by omega)]
      omega
    rw [if_pos q]
  | succ t ih =>
    intro fu i σ hR hi hx hf
    obtain ⟨f', rfl⟩ : ∃ f', fu = f' + 1 := ⟨fu - 1, by omega⟩
    rw [f_law_L18]
    by_cases hi : XL < i + 6
    · have q : Int32.ofNat XL - 6 < nI i := by
        rw [i_lt, show (Int32.ofNat XL - 6).toInt = (XL : Int) - (6 : Nat) from nI_subI (a := XL) (b := 6) (by omega) (by omega), nI_toInt (by omega)]
        omega
      rw [if_pos q]
    · have hi : i + 6 ≤ XL := by omega
      have q : ¬ Int32.ofNat XL - 6 < nI i := by
        rw [i_lt, show (Int32.ofNat XL - 6).toInt = (XL : Int) - (6 : Nat) from nI_subI (a := XL) (b := 6) (by omega) (by omega), nI_toInt (by omega)]
        omega
      rw [if_neg q, if_pos (gix_nI (show i < XL by omega) (by omega))]
      have hk : ∀ τ, R τ → (fun v3 σ => f_law_L18 XL xs f' v3 σ) (nI i + 6) τ = some 1 := by
        intro τ hτ
        show f_law_L18 XL xs f' (nI i + 6) τ = some 1
        rw [show nI i + 6 = nI (i + 6) from nI_add i 6]
        exact ih f' (i + 6) τ hτ (by omega) (by omega) (by omega)
      exact (ite1 (lj_212 hi h hk hR) (ite1 (lj_235 hi h hk hR) (ite1 (lj_278 hi h hk hR) (ite1 (lj_321 hi h hk hR) (ite1 (lj_354 hi h hk hR) (ite1 (lj_377 hi h hk hR) (ite1 (lj_390 hi h hk hR) (ite1 (lj_413 hi h hk hR) (ite1 (lj_436 hi h hk hR) (ite1 (lj_459 hi h hk hR) (ite1 (lj_502 hi h hk hR) (ite1 (lj_535 hi h hk hR) (ite1 (lj_568 hi h hk hR) (ite1 (lj_601 hi h hk hR) (ite1 (lj_624 hi h hk hR) (ite1 (lj_647 hi h hk hR) (ite1 (lj_691 hi h hk hR) (ite1 (lj_724 hi h hk hR) (ite1 (lj_757 hi h hk hR) (ite1 (lj_780 hi h hk hR) (ite1 (lj_823 hi h hk hR) (ite1 (lj_866 hi h hk hR) (ite1 (lj_909 hi h hk hR) (ite1 (lj_932 hi h hk hR) (ite1 (lj_945 hi h hk hR) (ite1 (lj_968 hi h hk hR) (ite1 (lj_1001 hi h hk hR) (ite1 (lj_1024 hi h hk hR) (ite1 (lj_1037 hi h hk hR) (ite1 (lj_1050 hi h hk hR) (ite1 (lj_1063 hi h hk hR) (ite1 (lj_1076 hi h hk hR) (ite1 (lj_1099 hi h hk hR) (ite1 (lj_1142 hi h hk hR) (ite1 (lj_1165 hi h hk hR) (ite1 (lj_1198 hi h hk hR) (ite1 (lj_1241 hi h hk hR) (ite1 (lj_1314 hi h hk hR) (ite1 (lj_1348 hi h hk hR) (ite1 (lj_1411 hi h hk hR) (ite1 (lj_1444 hi h hk hR) (hk σ hR))))))))))))))))))))))))))))))))))))))))))
def gs0 : gS := (fun c => if c < 59 then fun _ => 0 else gzm.1 (c - 59), fun _ _ => 0)
theorem R_gs0 : R gs0 := by
  refine ⟨0, fun _ => 0, fun _ => 0, fun _ => 0, fun _ => 0, 0, 0, 0, 0, ⟨⟨by decide, rfl, rfl⟩, fun c hc => absurd hc (Nat.not_lt_zero c), ⟨by decide, rfl, rfl⟩, ⟨by decide, rfl, rfl⟩, by decide, rfl, rfl⟩, ⟨0, by decide, rfl, rfl, fun i hi => absurd hi (Nat.not_lt_zero i)⟩, Or.inl ⟨rfl, rfl, rfl⟩, ⟨0, 0, ⟨Nat.le_refl _, by decide⟩, ⟨rfl, rfl, rfl, rfl⟩, fun i hi => absurd hi (Nat.not_lt_zero i)⟩, ⟨fun i hi => rfl, ⟨0, by decide, rfl, rfl⟩, 0, by decide, rfl, rfl⟩, Or.inl ⟨rfl, rfl⟩, ⟨⟨by decide, rfl, rfl⟩, fun i hi => absurd hi (Nat.not_lt_zero i), 0, by decide, rfl, rfl, fun i hi => absurd hi (Nat.not_lt_zero i)⟩, fun d hd => ?_, rfl⟩
  have hc : ∀ d, d < 6 → gs0.1 (47 + 2 * d) 1 = nI 0 ∧ gs0.1 76 d = -1 := by decide
  exact Or.inl (hc d hd)
theorem law_true {XL : Nat} {xs : Nat → Int32} (h : XL ≤ 3072) : f_law_L18 XL xs gfu 0 gs0 = some 1 := law_steps h 600 gfu 0 gs0 R_gs0 (by decide) (by omega) (by decide)
