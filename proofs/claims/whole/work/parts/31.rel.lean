/-! pure: class and reference coupled -/
def bok (b : Int32) : Prop := b = -1 ∨ ∃ w, w < 6 ∧ b = nI w
def Peo (σ : gS) (n : Nat) (K E P : Nat → Nat) (B : Nat → Int32) (F W D : Nat) : Prop :=
  (n ≤ 10 ∧ σ.1 1 6 = nI n ∧ σ.1 59 6 = nI n) ∧
  (∀ c, c < n → (K c < 8 ∧ E c < 13 ∧ P c < 100 ∧ bok (B c)) ∧ (σ.1 2 c = nI (K c) ∧ σ.1 3 c = nI (E c) ∧ σ.1 4 c = nI (P c) ∧ σ.1 5 c = B c) ∧ (σ.1 60 c = nI (K c) ∧ σ.1 60 (10 + c) = nI (E c) ∧ σ.1 60 (20 + c) = nI (P c) ∧ σ.1 60 (30 + c) = B c)) ∧
  (F < 6 ∧ σ.1 1 7 = nI F ∧ σ.1 60 40 = nI F) ∧ (W < 3 ∧ σ.1 1 8 = nI W ∧ σ.1 60 41 = nI W) ∧ (D < 100 ∧ σ.1 1 9 = nI D ∧ σ.1 60 42 = nI D)
def cPeo (c k : Nat) : Bool := (c == 1) && (k == 6 || k == 7 || k == 8 || k == 9) || c == 2 || c == 3 || c == 4 || c == 5 || (c == 59) && (k == 6) || c == 60
def Tap (σ : gS) : Prop := ∃ m : Nat, m ≤ 120 ∧ σ.1 27 3 = nI m ∧ σ.1 59 8 = nI m ∧ ∀ i, i < m → ∃ b : Nat, b < 256 ∧ σ.1 28 i = nI b ∧ σ.1 64 i = nI b
def cTap (c k : Nat) : Bool := (c == 27) && (k == 3) || c == 28 || (c == 59) && (k == 8) || c == 64
/-- scratch of both: what no later call reads -/
def scr (c k : Nat) : Bool := (c == 6) && (k == 3) || c == 9 || c == 10 || c == 11 || c == 12 || c == 13 || c == 14 || c == 15 || c == 16 || c == 17 || c == 18 || c == 19 || c == 20 || c == 21 || c == 22 || c == 23 || c == 24 || c == 25 || c == 26 || (c == 27) && (k == 4 || k == 5 || k == 6 || k == 7) || c == 29 || c == 30 || (c == 43) && (k == 4) || (c == 59) && (k == 11 || k == 12 || k == 13 || k == 14 || k == 15 || k == 34 || k == 35) || c == 66 || c == 67 || (c == 68) && !(k == 0) || c == 69 || c == 70 || c == 79
def Fr (S : Nat → Nat → Bool) (σ τ : gS) : Prop := (∀ c k, S c k = false → τ.1 c k = σ.1 c k) ∧ (∀ c k, S c k = false → τ.2 c k = σ.2 c k)
theorem Fr.rf (S : Nat → Nat → Bool) (σ : gS) : Fr S σ σ := ⟨fun _ _ _ => rfl, fun _ _ _ => rfl⟩
theorem Fr.tr {S : Nat → Nat → Bool} {σ τ υ : gS} (h : Fr S σ τ) (h2 : Fr S τ υ) : Fr S σ υ := ⟨fun c k q => (h2.1 c k q).trans (h.1 c k q), fun c k q => (h2.2 c k q).trans (h.2 c k q)⟩
theorem Fr.sub {S T : Nat → Nat → Bool} {σ τ : gS} (h : Fr S σ τ) (hT : ∀ c k, T c k = false → S c k = false) : Fr T σ τ := ⟨fun c k q => h.1 c k (hT c k q), fun c k q => h.2 c k (hT c k q)⟩
theorem Fr.pi {S : Nat → Nat → Bool} {σ τ : gS} {c k : Nat} {x : Int32} (h : Fr S σ τ) (hS : S c k = true) : Fr S σ (gpi τ c k x) := by
  refine ⟨fun c' k' q => ?_, fun c' k' q => h.2 c' k' q⟩
  rw [← h.1 c' k' q]
  show (gsi τ c (upd (τ.1 c) k x)).1 c' k' = _
  rw [gsi_at]
  split
  · rename_i e
    subst e
    rw [upd_at]
    split
    · rename_i e2
      subst e2
      rw [hS] at q
      cases q
    · rfl
  · rfl
theorem Fr.si {S : Nat → Nat → Bool} {σ τ : gS} {c : Nat} {f : Nat → Int32} (h : Fr S σ τ) (hS : ∀ k, S c k = true) : Fr S σ (gsi τ c f) := by
  refine ⟨fun c' k' q => ?_, fun c' k' q => h.2 c' k' q⟩
  rw [← h.1 c' k' q, gsi_at]
  split
  · rename_i e
    subst e
    rw [hS] at q
    cases q
  · rfl
theorem Fr.pl {S : Nat → Nat → Bool} {σ τ : gS} {c k : Nat} {x : Int64} (h : Fr S σ τ) (hS : S c k = true) : Fr S σ (gpl τ c k x) := by
  refine ⟨fun c' k' q => h.1 c' k' q, fun c' k' q => ?_⟩
  rw [← h.2 c' k' q]
  show (gsl τ c (vp_updL (τ.2 c) k x)).2 c' k' = _
  rw [gsl_at]
  split
  · rename_i e
    subst e
    rw [updL_at]
    split
    · rename_i e2
      subst e2
      rw [hS] at q
      cases q
    · rfl
  · rfl
/-- the law in force: one function of the six names, whatever the scratch holds -/
def Lw (σ : gS) : Prop :=
  (σ.1 6 4 = nI 0 ∧ σ.1 59 10 = -1 ∧ σ.1 6 5 = nI 0) ∨
  ∃ (V : (Nat → Int32) → Int32) (len tn : Nat), (0 < len ∧ len ≤ 128 ∧ σ.1 6 4 = nI len) ∧ (tn ≤ 120 ∧ σ.1 59 10 = nI tn) ∧
    (∀ f g : Nat → Int32, (∀ i, i < 6 → f i = g i) → V f = V g) ∧
    ((σ.1 6 5 = nI 0 ∧ ∀ f g : Nat → Int32, (∀ i, i < 6 → i ≠ 4 → f i = g i) → V f = V g) ∨ σ.1 6 5 = nI 1) ∧
    (∀ τ : gS, τ.1 6 4 = σ.1 6 4 → (∀ k, τ.1 7 k = σ.1 7 k) → (∀ k, τ.1 8 k = σ.1 8 k) → ∃ υ, f_Law_value τ = some (V (τ.1 10), υ) ∧ Fr (fun c k => (c == 6) && (k == 3) || c == 9) τ υ) ∧
    (∀ τ : gS, (∀ k, τ.1 65 k = σ.1 65 k) → ∃ υ, f_M_workOut (nI 0) (nI tn) τ = some (V (τ.1 66), υ) ∧ Fr (fun c k => (c == 59) && (k == 11 || k == 12 || k == 13 || k == 14 || k == 15)) τ υ)
def cLw (c k : Nat) : Bool := (c == 6) && (k == 4 || k == 5) || c == 7 || c == 8 || (c == 59) && (k == 10) || c == 65
/-- a change's number: as mend() takes it -/
def lst (w : Nat) : Int32 := tb_LEAST.getD w 0
def mst (w : Nat) : Int32 := tb_MOST.getD w 0
def okv (w : Nat) (v : Int32) : Bool := decide ((lst w).toInt ≤ v.toInt) && decide (v.toInt ≤ (mst w).toInt)
def okn (n w u : Nat) : Prop := w < 7 ∧ (w < 4 → u < n) ∧ (4 ≤ w → u = 0)
def plc (w u : Nat) : Nat := if w < 4 then 10 * w + u else 36 + w
def Chg (σ : gS) (n : Nat) : Prop := ∃ d k : Nat, (d ≤ k ∧ k ≤ 40) ∧ (σ.1 31 4 = nI d ∧ σ.1 31 5 = nI k ∧ σ.1 59 5 = nI d ∧ σ.1 59 4 = nI k) ∧
  ∀ i, i < k → ∃ u w : Nat, okn n w u ∧ σ.1 32 i = nI u ∧ σ.1 33 i = nI w ∧ okv w (σ.1 34 i) = true ∧ okv w (σ.1 35 i) = true ∧ σ.1 61 i = nI (plc w u) ∧ σ.1 62 i = σ.1 34 i ∧ σ.1 63 i = σ.1 35 i
def cChg (c k : Nat) : Bool := (c == 31) && (k == 4 || k == 5) || c == 32 || c == 33 || c == 34 || c == 35 || (c == 59) && (k == 4 || k == 5) || c == 61 || c == 62 || c == 63
def Led (σ : gS) (n : Nat) : Prop := (∀ i, i < 5 → σ.1 37 i = σ.1 71 i) ∧ (∃ h, h < 2 ^ n ∧ σ.1 36 1 = nI h ∧ σ.1 59 21 = nI h) ∧ (∃ t, t < 64 ∧ σ.1 36 2 = nI t ∧ σ.1 59 22 = nI t)
def cLed (c k : Nat) : Bool := c == 37 || (c == 36) && (k == 1 || k == 2) || (c == 59) && (k == 21 || k == 22) || c == 71
def Pic (σ : gS) (n : Nat) : Prop := (σ.1 38 5 = nI 0 ∧ σ.1 59 24 = nI 0) ∨
  (σ.1 38 5 = nI 1 ∧ σ.1 59 24 = nI 1) ∧ ∃ m D : Nat, (m ≤ n ∧ σ.1 38 3 = nI m ∧ σ.1 59 25 = nI m) ∧ (D < 100 ∧ σ.1 38 4 = nI D ∧ σ.1 72 42 = nI D) ∧
    (∀ c, c < m → (∃ k, k < 8 ∧ σ.1 39 c = nI k ∧ σ.1 72 c = nI k) ∧ bok (σ.1 40 c) ∧ σ.1 72 (30 + c) = σ.1 40 c) ∧
    (∀ i, i < 5 → σ.1 42 i = σ.1 73 i) ∧ (∃ h, h < 2 ^ m ∧ σ.1 41 1 = nI h ∧ σ.1 59 26 = nI h) ∧ (∃ t, t < 64 ∧ σ.1 41 2 = nI t ∧ σ.1 59 27 = nI t)
def cPic (c k : Nat) : Bool := (c == 38) && (k == 3 || k == 4 || k == 5) || c == 39 || c == 40 || (c == 41) && (k == 1 || k == 2) || c == 42 || (c == 59) && (k == 24 || k == 25 || k == 26 || k == 27) || c == 72 || c == 73
def Wrd (σ : gS) (m : Nat) : Prop := (m ≤ 50 ∧ σ.1 43 2 = nI m ∧ σ.1 59 30 = nI m) ∧ (∀ i, i < m → ∃ k, k < 8 ∧ σ.1 44 i = nI k ∧ σ.1 74 i = nI k) ∧ ∃ r, r < 1000000 ∧ σ.1 43 3 = nI r ∧ σ.1 59 33 = nI r ∧ ∀ i, i < r → i < 24 → σ.1 45 i = σ.1 75 i
def cWrd (c k : Nat) : Bool := (c == 43) && (k == 2 || k == 3) || c == 44 || c == 45 || (c == 59) && (k == 30 || k == 33) || c == 74 || c == 75
/-- a shelf: nothing, a word, a row of a sort with so many places -/
def Sh1 (σ : gS) (m d : Nat) : Prop :=
  (σ.1 (47 + 2 * d) 1 = nI 0 ∧ σ.1 76 d = -1) ∨
  (∃ w, w < m ∧ σ.1 (47 + 2 * d) 1 = nI 1 ∧ σ.1 (47 + 2 * d) 2 = nI w ∧ σ.1 76 d = nI w) ∨
  ∃ s z : Nat, (s < 5 ∧ z ≤ 60) ∧ (σ.1 (47 + 2 * d) 1 = nI 2 ∧ σ.1 (47 + 2 * d) 3 = nI s ∧ σ.1 (47 + 2 * d) 4 = nI z) ∧ (σ.1 76 d = nI (50 + s) ∧ σ.1 77 d = nI z) ∧
    ∀ i, i < 60 → σ.2 (48 + 2 * d) i = σ.2 78 (60 * d + i) ∧ (s = 0 → -128 ≤ (σ.2 78 (60 * d + i)).toInt ∧ (σ.2 78 (60 * d + i)).toInt ≤ 127)
def Shv (σ : gS) (m : Nat) : Prop := ∀ d, d < 6 → Sh1 σ m d
def cShv (c k : Nat) : Bool := (decide (47 ≤ c) && decide (c ≤ 58)) || c == 76 || c == 77 || c == 78
def R (σ : gS) : Prop := ∃ (n : Nat) (K E P : Nat → Nat) (B : Nat → Int32) (F W D m : Nat), Peo σ n K E P B F W D ∧ Tap σ ∧ Lw σ ∧ Chg σ n ∧ Led σ n ∧ Pic σ n ∧ Wrd σ m ∧ Shv σ m ∧ σ.1 68 0 = nI 0
theorem Peo.ag {σ τ : gS} {n : Nat} {K E P : Nat → Nat} {B : Nat → Int32} {F W D : Nat} (h : Peo σ n K E P B F W D) (g : ∀ c k, cPeo c k = true → τ.1 c k = σ.1 c k) : Peo τ n K E P B F W D := by
  unfold Peo at h ⊢
  simp only [g 1 6 rfl, g 1 7 rfl, g 1 8 rfl, g 1 9 rfl, g 59 6 rfl, g 2 _ rfl, g 3 _ rfl, g 4 _ rfl, g 5 _ rfl, g 60 _ rfl]
  exact h
theorem Tap.ag {σ τ : gS} (h : Tap σ) (g : ∀ c k, cTap c k = true → τ.1 c k = σ.1 c k) : Tap τ := by
  unfold Tap at h ⊢
  simp only [g 27 3 rfl, g 59 8 rfl, g 28 _ rfl, g 64 _ rfl]
  exact h
theorem Lw.ag {σ τ : gS} (h : Lw σ) (g : ∀ c k, cLw c k = true → τ.1 c k = σ.1 c k) : Lw τ := by
  unfold Lw at h ⊢
  simp only [g 6 4 rfl, g 6 5 rfl, g 59 10 rfl, g 7 _ rfl, g 8 _ rfl, g 65 _ rfl]
  exact h
theorem Chg.ag {σ τ : gS} {n : Nat} (h : Chg σ n) (g : ∀ c k, cChg c k = true → τ.1 c k = σ.1 c k) : Chg τ n := by
  unfold Chg at h ⊢
  simp only [g 31 4 rfl, g 31 5 rfl, g 59 4 rfl, g 59 5 rfl, g 32 _ rfl, g 33 _ rfl, g 34 _ rfl, g 35 _ rfl, g 61 _ rfl, g 62 _ rfl, g 63 _ rfl]
  exact h
theorem Led.ag {σ τ : gS} {n : Nat} (h : Led σ n) (g : ∀ c k, cLed c k = true → τ.1 c k = σ.1 c k) : Led τ n := by
  unfold Led at h ⊢
  simp only [g 37 _ rfl, g 36 1 rfl, g 36 2 rfl, g 59 21 rfl, g 59 22 rfl, g 71 _ rfl]
  exact h
theorem Pic.ag {σ τ : gS} {n : Nat} (h : Pic σ n) (g : ∀ c k, cPic c k = true → τ.1 c k = σ.1 c k) : Pic τ n := by
  unfold Pic at h ⊢
  simp only [g 38 3 rfl, g 38 4 rfl, g 38 5 rfl, g 39 _ rfl, g 40 _ rfl, g 41 1 rfl, g 41 2 rfl, g 42 _ rfl, g 59 24 rfl, g 59 25 rfl, g 59 26 rfl, g 59 27 rfl, g 72 _ rfl, g 73 _ rfl]
  exact h
theorem Wrd.ag {σ τ : gS} {n : Nat} (h : Wrd σ n) (g : ∀ c k, cWrd c k = true → τ.1 c k = σ.1 c k) : Wrd τ n := by
  unfold Wrd at h ⊢
  simp only [g 43 2 rfl, g 43 3 rfl, g 44 _ rfl, g 45 _ rfl, g 59 30 rfl, g 59 33 rfl, g 74 _ rfl, g 75 _ rfl]
  exact h
theorem cShv_c {c : Nat} (h : 47 ≤ c ∧ c ≤ 58) (k : Nat) : cShv c k = true := by
  unfold cShv
  simp [h.1, h.2]
theorem Shv.ag {σ τ : gS} {n : Nat} (h : Shv σ n) (g : ∀ c k, cShv c k = true → τ.1 c k = σ.1 c k) (g2 : ∀ c k, cShv c k = true → τ.2 c k = σ.2 c k) : Shv τ n := by
  intro d hd
  have h0 := h d hd
  unfold Sh1 at h0 ⊢
  simp only [g (47 + 2 * d) _ (cShv_c (by omega) _), g 76 _ rfl, g 77 _ rfl, g2 (48 + 2 * d) _ (cShv_c (by omega) _), g2 78 _ rfl]
  exact h0
/-- R over scratch -/
theorem scr_no {c k : Nat} (h : cPeo c k || cTap c k || cLw c k || cChg c k || cLed c k || cPic c k || cWrd c k || cShv c k || ((c == 68) && (k == 0)) = true) : scr c k = false := by
  simp only [cPeo, cTap, cLw, cChg, cLed, cPic, cWrd, cShv, Bool.or_eq_true, Bool.and_eq_true, beq_iff_eq, decide_eq_true_eq] at h
  simp only [scr, Bool.or_eq_false_iff, Bool.and_eq_false_iff, beq_eq_false_iff_ne, Bool.not_eq_false', beq_iff_eq, ne_eq]
  omega
theorem R.fr {σ τ : gS} (h : R σ) (g : Fr scr σ τ) : R τ := by
  obtain ⟨n, K, E, P, B, F, W, D, m, h1, h2, h3, h4, h5, h6, h7, h8, h9⟩ := h
  refine ⟨n, K, E, P, B, F, W, D, m, h1.ag fun c k q => g.1 c k (scr_no (by simp [q])), h2.ag fun c k q => g.1 c k (scr_no (by simp [q])), h3.ag fun c k q => g.1 c k (scr_no (by simp [q])), h4.ag fun c k q => g.1 c k (scr_no (by simp [q])), h5.ag fun c k q => g.1 c k (scr_no (by simp [q])), h6.ag fun c k q => g.1 c k (scr_no (by simp [q])), h7.ag fun c k q => g.1 c k (scr_no (by simp [q])), h8.ag (fun c k q => g.1 c k (scr_no (by simp [q]))) (fun c k q => g.2 c k (scr_no (by simp [q]))), ?_⟩
  rw [g.1 68 0 rfl]
  exact h9
/-- class and reference agree on a call -/
def Agr (fT fM : gS → Option (Int32 × gS)) : Prop := ∀ σ, R σ → ∃ (x : Int32) (τ υ : gS), fT σ = some (x, τ) ∧ fM τ = some (x, υ) ∧ R υ
