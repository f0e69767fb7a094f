/-! pure: likely -/
/-- one two's part of the weight -/
def wt1 (E : Nat → Nat) (x : Nat → Int64) (w k : Nat) : Nat := if bv x (2 * k + 1) = w then 5 * E (bv x (2 * k)) else 12 - E (bv x (2 * k))
def wt (E : Nat → Nat) (x : Nat → Int64) (w : Nat) : Nat → Nat
  | 0 => 1
  | k + 1 => wt E x w k * wt1 E x w k
theorem wt_le (E : Nat → Nat) (x : Nat → Int64) (w : Nat) (h : ∀ k, E k < 13 ∨ True) : ∀ k, (∀ j, j < k → E (bv x (2 * j)) < 13) → wt E x w k ≤ 60 ^ k
  | 0, _ => Nat.le_refl _
  | k + 1, hE => by
    have ih := wt_le E x w h k fun j hj => hE j (by omega)
    have h1 : wt1 E x w k ≤ 60 := by
      have := hE k (by omega)
      unfold wt1
      split <;> omega
    show wt E x w k * wt1 E x w k ≤ 60 ^ (k + 1)
    rw [Nat.pow_succ]
    exact Nat.mul_le_mul ih h1
theorem wt_lt {E : Nat → Nat} {x : Nat → Int64} {w q : Nat} (hq : q ≤ 8) (hE : ∀ j, j < q → E (bv x (2 * j)) < 13) : wt E x w q ≤ 167961600000000 := by
  have h1 := wt_le E x w (fun _ => Or.inr trivial) q hE
  have h2 : 60 ^ q ≤ 60 ^ 8 := Nat.pow_le_pow_right (by decide) hq
  have h3 : (60 : Nat) ^ 8 = 167961600000000 := by decide
  omega
def wts (E : Nat → Nat) (x : Nat → Int64) (q k : Nat) : Nat := sm (fun w => wt E x w q) k
theorem wts_lt {E : Nat → Nat} {x : Nat → Int64} {q : Nat} (hq : q ≤ 8) (hE : ∀ j, j < q → E (bv x (2 * j)) < 13) (k : Nat) : wts E x q k ≤ k * 167961600000000 := sm_le (fun w => wt_lt hq hE) k
theorem nIl {a : Nat} (h : a < 2147483648) : (nI a).toInt64 = lN a := nI_l h
theorem Tweight {σ : gS} {d z n q w : Nat} {x : Nat → Int64} {E : Nat → Nat} (h6 : σ.1 1 6 = nI n) (hn : n ≤ 10) (hE : ∀ c, c < n → σ.1 3 c = nI (E c) ∧ E c < 13) (hB : BRow σ d z x) (hw : w < 6) (hq : q ≤ 8) (h1 : ∀ i, i < q → two2 x z n i) (h2 : q = 8 ∨ ¬ two2 x z n q) : f_T_weight (47 + 2 * d) (nI w) σ = some (lN (wt E x w q)) := by
  unfold f_T_weight
  simp only [litE, litLE]
  have m : ∀ k, nI 2 * nI k = nI (2 * k) := fun k => pk_mul 2 k
  have m5 : ∀ k, nI 5 * nI k = nI (5 * k) := fun k => pk_mul 5 k
  refine loopG (fun fu i (a : Nat) => f_T_weight_L5 (47 + 2 * d) σ fu (nI w) (lN a) (nI i)) (fun o => o = some (lN (wt E x w q))) (fun i a => a = wt E x w i) q 0 1 (by omega) (by omega) rfl ?_ ?_
  · intro fu i a hi hp
    left
    refine ⟨a * wt1 E x w i, ?_, by show _ = wt E x w i * wt1 E x w i; rw [hp]⟩
    obtain ⟨b, e1, e2⟩ := TisTwo h6 hn hB (show i < 100 by omega)
    have hb : b = true := e2.mpr (h1 i hi)
    subst hb
    obtain ⟨c1, c2, c3, c4⟩ := bval.v hB (h1 i hi).2
    obtain ⟨f1, f2, f3, f4⟩ := bval.v hB (h1 i hi).1
    have s1 := small_eq hB (show 2 * i < 1000 by omega)
    have s2 := small_eq hB (show 2 * i + 1 < 1000 by omega)
    rw [c1] at s2
    rw [f1] at s1
    obtain ⟨g1, g2⟩ := hE _ f2
    have q1 : ¬ 8 ≤ i := by omega
    unfold wt1
    by_cases e : bv x (2 * i + 1) = w
    · simp (maxSteps := 2000000) (disch := omega) only [f_T_weight_L5, f_T_weight_j69, gupE, gltE, gllE, litE, litLE, bindE, ↓reduceIte, gsi_at, gsi_l2, gsl_at, gsl_i1, upd_at, updL_at, Nat.reduceEqDiff, gix_nI, nI_clamp, bI_0, bI_gzb, Bool.true_eq_false, Bool.false_eq_true, nI_leI, q1, e1, m, s1, g1, nI_add, s2, nI_eq, e, m5, nIl, lN_mul]
    · simp (maxSteps := 2000000) (disch := omega) only [f_T_weight_L5, f_T_weight_j69, gupE, gltE, gllE, litE, litLE, bindE, ↓reduceIte, gsi_at, gsi_l2, gsl_at, gsl_i1, upd_at, updL_at, Nat.reduceEqDiff, gix_nI, nI_clamp, bI_0, bI_gzb, Bool.true_eq_false, Bool.false_eq_true, nI_leI, q1, e1, m, s1, g1, nI_add, s2, nI_eq, e, pk_sub, nIl, lN_mul]
  · intro fu a hp
    subst hp
    by_cases q8 : 8 ≤ q
    · simp (maxSteps := 2000000) (disch := omega) only [f_T_weight_L5, gupE, gltE, gllE, litE, litLE, bindE, ↓reduceIte, gsi_at, gsi_l2, gsl_at, gsl_i1, upd_at, updL_at, Nat.reduceEqDiff, gix_nI, nI_clamp, bI_0, bI_gzb, Bool.true_eq_false, Bool.false_eq_true, nI_leI, q8]
    · have hno : ¬ two2 x z n q := h2.elim (fun e => absurd e (by omega)) id
      obtain ⟨b, e1, e2⟩ := TisTwo h6 hn hB (show q < 100 by omega)
      have hb : b = false := by
        cases b with
        | false => rfl
        | true => exact absurd (e2.mp rfl) hno
      subst hb
      simp (maxSteps := 2000000) (disch := omega) only [f_T_weight_L5, gupE, gltE, gllE, litE, litLE, bindE, ↓reduceIte, gsi_at, gsi_l2, gsl_at, gsl_i1, upd_at, updL_at, Nat.reduceEqDiff, gix_nI, nI_clamp, bI_0, bI_gzb, Bool.true_eq_false, Bool.false_eq_true, nI_leI, q8, e1]
theorem Mweight {σ : gS} {d z n q w : Nat} {x : Nat → Int64} {E : Nat → Nat} (hd : d < 6) (h6 : σ.1 59 6 = nI n) (hn : n ≤ 10) (hE : ∀ c, c < n → σ.1 60 (10 + c) = nI (E c) ∧ E c < 13) (hB : MRow σ d z x) (hw : w < 6) (hq : q ≤ 8) (h1 : ∀ i, i < q → two2 x z n i) (h2 : q = 8 ∨ ¬ two2 x z n q) : f_M_weightOf (nI d) (nI w) σ = some (lN (wt E x w q)) := by
  unfold f_M_weightOf
  simp only [litE, litLE]
  have m : ∀ k, nI 2 * nI k = nI (2 * k) := fun k => pk_mul 2 k
  have m5 : ∀ k, nI 5 * nI k = nI (5 * k) := fun k => pk_mul 5 k
  have hsm := MsaidMany hd h6 hn hB hq h1 h2
  refine loopG (fun fu i (a : Nat) => f_M_weightOf_L5 σ fu (nI d) (nI w) (lN a) (nI i)) (fun o => o = some (lN (wt E x w q))) (fun i a => a = wt E x w i) q 0 1 (by omega) (by omega) rfl ?_ ?_
  · intro fu i a hi hp
    left
    refine ⟨a * wt1 E x w i, ?_, by show _ = wt E x w i * wt1 E x w i; rw [hp]⟩
    obtain ⟨v1, v2⟩ := h1 i hi
    have zz := v2.1
    have hz := hB.1
    obtain ⟨c1, c2, c3⟩ := bval.m hB v2
    obtain ⟨f1, f2, f3⟩ := bval.m hB v1
    have ea := ((hB.2.2 (2 * i) (by omega)).1).trans f3
    have eb := (hB.2.2 (2 * i + 1) (by omega)).1
    rw [← Nat.add_assoc] at eb
    obtain ⟨g1, g2⟩ := hE _ f1
    have q1 : ¬ q ≤ i := by omega
    have tm : (lg_cmp (x (2 * i + 1)) (nI w).toInt64 = nI 0) = (bv x (2 * i + 1) = w) := by
      rw [told_m (by omega)]
      apply propext
      have := v2.2
      unfold bv
      omega
    rw [nIl (show w < 2147483648 by omega)] at tm
    unfold wt1
    by_cases e : bv x (2 * i + 1) = w
    · simp (maxSteps := 2000000) (disch := omega) only [f_M_weightOf_L5, f_M_weightOf_j77, gupE, gltE, gllE, litE, litLE, bindE, ↓reduceIte, gsi_at, gsi_l2, gsl_at, gsl_i1, upd_at, updL_at, Nat.reduceEqDiff, gix_nI, nI_clamp, bI_0, bI_gzb, Bool.true_eq_false, Bool.false_eq_true, hsm, nI_leI, q1, i_eq32, m, nI_add, ea, lNi, g1, eb, tm, e, m5, nIl, lN_mul]
    · simp (maxSteps := 2000000) (disch := omega) only [f_M_weightOf_L5, f_M_weightOf_j77, gupE, gltE, gllE, litE, litLE, bindE, ↓reduceIte, gsi_at, gsi_l2, gsl_at, gsl_i1, upd_at, updL_at, Nat.reduceEqDiff, gix_nI, nI_clamp, bI_0, bI_gzb, Bool.true_eq_false, Bool.false_eq_true, hsm, nI_leI, q1, i_eq32, m, nI_add, ea, lNi, g1, eb, tm, e, pk_sub, nIl, lN_mul]
  · intro fu a hp
    subst hp
    have q1 : nI q ≤ nI q := Int32.le_refl _
    simp (maxSteps := 2000000) (disch := omega) only [f_M_weightOf_L5, gupE, gltE, gllE, litE, litLE, bindE, ↓reduceIte, gsi_at, gsi_l2, gsl_at, gsl_i1, upd_at, updL_at, Nat.reduceEqDiff, gix_nI, nI_clamp, bI_0, bI_gzb, Bool.true_eq_false, Bool.false_eq_true, hsm, q1]
theorem glrem_lN {a b : Nat} (ha : a < 9223372036854775808) (h0 : 0 < b) (hb : b < 9223372036854775808) : glrem (lN a) (lN b) = lN (a % b) := pk_lRem ha h0 hb
theorem lNz {a : Nat} (ha : a < 9223372036854775808) : (lN a = lN 0) = (a = 0) := propext (pk_lEQ ha (by decide))
theorem half {a b : Nat} (h0 : 0 < b) (h : a % b ≠ 0) : 2 * (b % (a % b)) < b := by
  have h1 : a % b < b := Nat.mod_lt _ h0
  have h2 : b % (a % b) < a % b := Nat.mod_lt _ (Nat.pos_of_ne_zero h)
  have h3 := Nat.div_add_mod b (a % b)
  have h4 : 1 ≤ b / (a % b) := Nat.div_pos (Nat.le_of_lt h1) (Nat.pos_of_ne_zero h)
  have h5 : (a % b) * 1 ≤ (a % b) * (b / (a % b)) := Nat.mul_le_mul_left _ h4
  omega
theorem Tgcd : ∀ (k fu a b s : Nat), 2 * k < fu → s + 2 * k < 200 → b < 2 ^ k → a < 9223372036854775808 → 2 ^ k < 9223372036854775808 → f_T_commonDivisor_L9 fu (lN a) (lN b) (nI s) = some (lN (Nat.gcd a b)) := by
  intro k
  induction k with
  | zero =>
    intro fu a b s hf hs hb ha hk
    obtain ⟨f, rfl⟩ : ∃ f, fu = f + 1 := ⟨fu - 1, by omega⟩
    have : b = 0 := by simpa using hb
    subst this
    have q1 : ¬ 200 ≤ s := by omega
    simp (maxSteps := 2000000) (disch := omega) only [f_T_commonDivisor_L9, gupE, gltE, gllE, litE, litLE, bindE, ↓reduceIte, gsi_at, gsi_l2, gsl_at, gsl_i1, upd_at, updL_at, Nat.reduceEqDiff, gix_nI, nI_clamp, bI_0, bI_gzb, Bool.true_eq_false, Bool.false_eq_true, nI_leI, q1, lcmp0, Nat.gcd_zero_right]
  | succ k ih =>
    intro fu a b s hf hs hb ha hk
    obtain ⟨f, rfl⟩ : ∃ f, fu = f + 1 + 1 := ⟨fu - 2, by omega⟩
    have q1 : ¬ 200 ≤ s := by omega
    have q2 : ¬ 200 ≤ s + 1 := by omega
    have hkk : 2 ^ k ≤ 2 ^ (k + 1) := Nat.pow_le_pow_right (by decide) (by omega)
    by_cases b0 : b = 0
    · subst b0
      simp (maxSteps := 2000000) (disch := omega) only [f_T_commonDivisor_L9, gupE, gltE, gllE, litE, litLE, bindE, ↓reduceIte, gsi_at, gsi_l2, gsl_at, gsl_i1, upd_at, updL_at, Nat.reduceEqDiff, gix_nI, nI_clamp, bI_0, bI_gzb, Bool.true_eq_false, Bool.false_eq_true, nI_leI, q1, lcmp0, Nat.gcd_zero_right]
    · have hb' : ¬ lN b = lN 0 := by rw [lNz (by omega)]; exact b0
      have hl : a % b < b := Nat.mod_lt _ (by omega)
      by_cases r0 : a % b = 0
      · have e : Nat.gcd a b = b := by
          rw [Nat.gcd_comm, Nat.gcd_rec, r0, Nat.gcd_zero_left]
        rw [e]
        simp (maxSteps := 2000000) (disch := omega) only [f_T_commonDivisor_L9, gupE, gltE, gllE, litE, litLE, bindE, ↓reduceIte, gsi_at, gsi_l2, gsl_at, gsl_i1, upd_at, updL_at, Nat.reduceEqDiff, gix_nI, nI_clamp, bI_0, bI_gzb, Bool.true_eq_false, Bool.false_eq_true, nI_leI, q1, q2, lcmp0, hb', glrem_lN, r0, nI_add]
      · have hr' : ¬ lN (a % b) = lN 0 := by rw [lNz (by omega)]; exact r0
        have hh := half (a := a) (show 0 < b by omega) r0
        have e : Nat.gcd a b = Nat.gcd (a % b) (b % (a % b)) := by
          rw [Nat.gcd_comm, Nat.gcd_rec b a, Nat.gcd_rec (a % b) b, Nat.gcd_comm]
        rw [e, ← ih f (a % b) (b % (a % b)) (s + 1 + 1) (by omega) (by omega) (by rw [Nat.pow_succ] at hb; omega) (by omega) (by omega)]
        simp (maxSteps := 2000000) (disch := omega) only [f_T_commonDivisor_L9, gupE, gltE, gllE, litE, litLE, bindE, ↓reduceIte, gsi_at, gsi_l2, gsl_at, gsl_i1, upd_at, updL_at, Nat.reduceEqDiff, gix_nI, nI_clamp, bI_0, bI_gzb, Bool.true_eq_false, Bool.false_eq_true, nI_leI, q1, q2, lcmp0, hb', glrem_lN, hr', nI_add]
theorem Mgcd {σ : gS} {t : Nat} {A Bb : Nat} (ht : t < 2) (hA : A < 9223372036854775808) (hBb : Bb < 9223372036854775808) : ∀ (k fu a b : Nat), 2 * k < fu → b < 2 ^ k → a < 9223372036854775808 → 2 ^ k < 9223372036854775808 → Nat.gcd a b ≠ 0 → f_M_likely_L87 σ fu (nI t) (lN A) (lN Bb) (lN a) (lN b) = some (lN ((if t = 0 then A else Bb) / Nat.gcd a b)) := by
  intro k
  induction k with
  | zero =>
    intro fu a b hf hb ha hk hg
    obtain ⟨f, rfl⟩ : ∃ f, fu = f + 1 := ⟨fu - 1, by omega⟩
    have : b = 0 := by simpa using hb
    subst this
    rw [Nat.gcd_zero_right] at hg ⊢
    have ha' : ¬ lN a = lN 0 := by rw [lNz (by omega)]; exact hg
    by_cases t0 : t = 0
    · simp (maxSteps := 2000000) (disch := omega) only [f_M_likely_L87, gupE, gltE, gllE, litE, litLE, bindE, ↓reduceIte, gsi_at, gsi_l2, gsl_at, gsl_i1, upd_at, updL_at, Nat.reduceEqDiff, gix_nI, nI_clamp, bI_0, bI_gzb, Bool.true_eq_false, Bool.false_eq_true, lcmp0, t0, ha', pk_lDiv, Nat.pos_of_ne_zero]
    · simp (maxSteps := 2000000) (disch := omega) only [f_M_likely_L87, gupE, gltE, gllE, litE, litLE, bindE, ↓reduceIte, gsi_at, gsi_l2, gsl_at, gsl_i1, upd_at, updL_at, Nat.reduceEqDiff, gix_nI, nI_clamp, bI_0, bI_gzb, Bool.true_eq_false, Bool.false_eq_true, lcmp0, nI_eq, t0, ha', pk_lDiv, Nat.pos_of_ne_zero]
  | succ k ih =>
    intro fu a b hf hb ha hk hg
    obtain ⟨f, rfl⟩ : ∃ f, fu = f + 1 + 1 := ⟨fu - 2, by omega⟩
    have hkk : 2 ^ k ≤ 2 ^ (k + 1) := Nat.pow_le_pow_right (by decide) (by omega)
    by_cases b0 : b = 0
    · subst b0
      rw [Nat.gcd_zero_right] at hg ⊢
      have ha' : ¬ lN a = lN 0 := by rw [lNz (by omega)]; exact hg
      by_cases t0 : t = 0
      · simp (maxSteps := 2000000) (disch := omega) only [f_M_likely_L87, gupE, gltE, gllE, litE, litLE, bindE, ↓reduceIte, gsi_at, gsi_l2, gsl_at, gsl_i1, upd_at, updL_at, Nat.reduceEqDiff, gix_nI, nI_clamp, bI_0, bI_gzb, Bool.true_eq_false, Bool.false_eq_true, lcmp0, t0, ha', pk_lDiv]
      · simp (maxSteps := 2000000) (disch := omega) only [f_M_likely_L87, gupE, gltE, gllE, litE, litLE, bindE, ↓reduceIte, gsi_at, gsi_l2, gsl_at, gsl_i1, upd_at, updL_at, Nat.reduceEqDiff, gix_nI, nI_clamp, bI_0, bI_gzb, Bool.true_eq_false, Bool.false_eq_true, lcmp0, nI_eq, t0, ha', pk_lDiv]
    · have hb' : ¬ lN b = lN 0 := by rw [lNz (by omega)]; exact b0
      have hl : a % b < b := Nat.mod_lt _ (by omega)
      by_cases r0 : a % b = 0
      · have e : Nat.gcd a b = b := by
          rw [Nat.gcd_comm, Nat.gcd_rec, r0, Nat.gcd_zero_left]
        rw [e]
        by_cases t0 : t = 0
        · simp (maxSteps := 2000000) (disch := omega) only [f_M_likely_L87, gupE, gltE, gllE, litE, litLE, bindE, ↓reduceIte, gsi_at, gsi_l2, gsl_at, gsl_i1, upd_at, updL_at, Nat.reduceEqDiff, gix_nI, nI_clamp, bI_0, bI_gzb, Bool.true_eq_false, Bool.false_eq_true, lcmp0, hb', glrem_lN, r0, t0, pk_lDiv]
        · simp (maxSteps := 2000000) (disch := omega) only [f_M_likely_L87, gupE, gltE, gllE, litE, litLE, bindE, ↓reduceIte, gsi_at, gsi_l2, gsl_at, gsl_i1, upd_at, updL_at, Nat.reduceEqDiff, gix_nI, nI_clamp, bI_0, bI_gzb, Bool.true_eq_false, Bool.false_eq_true, lcmp0, hb', glrem_lN, r0, nI_eq, t0, pk_lDiv]
      · have hr' : ¬ lN (a % b) = lN 0 := by rw [lNz (by omega)]; exact r0
        have hh := half (a := a) (show 0 < b by omega) r0
        have e : Nat.gcd a b = Nat.gcd (a % b) (b % (a % b)) := by
          rw [Nat.gcd_comm, Nat.gcd_rec b a, Nat.gcd_rec (a % b) b, Nat.gcd_comm]
        rw [e] at hg ⊢
        rw [← ih f (a % b) (b % (a % b)) (by omega) (by rw [Nat.pow_succ] at hb; omega) (by omega) (by omega) hg]
        simp (maxSteps := 2000000) (disch := omega) only [f_M_likely_L87, gupE, gltE, gllE, litE, litLE, bindE, ↓reduceIte, gsi_at, gsi_l2, gsl_at, gsl_i1, upd_at, updL_at, Nat.reduceEqDiff, gix_nI, nI_clamp, bI_0, bI_gzb, Bool.true_eq_false, Bool.false_eq_true, lcmp0, hb', glrem_lN, hr']
theorem Tsum {σ : gS} {d z n q w t : Nat} {x : Nat → Int64} {E : Nat → Nat} (h6 : σ.1 1 6 = nI n) (hn : n ≤ 10) (hE : ∀ c, c < n → σ.1 3 c = nI (E c) ∧ E c < 13) (hB : BRow σ d z x) (hw : w < 6) (ht : t < 2) (hq : q ≤ 8) (h1 : ∀ i, i < q → two2 x z n i) (h2 : q = 8 ∨ ¬ two2 x z n q) :
    f_T_likely_L65 σ gfu (nI t) (47 + 2 * d) (lN (wt E x w q)) (lN 0) (nI 0) = some (lN (if Nat.gcd (wts E x q 6) (wt E x w q) = 0 then t else (if t = 0 then wt E x w q else wts E x q 6) / Nat.gcd (wts E x q 6) (wt E x w q))) := by
  have hEx : ∀ j, j < q → E (bv x (2 * j)) < 13 := fun j hj => (hE _ (bval.v hB (h1 j hj).1).2.1).2
  have hww := wt_lt (w := w) hq hEx
  refine loopG (fun fu i (a : Nat) => f_T_likely_L65 σ fu (nI t) (47 + 2 * d) (lN (wt E x w q)) (lN a) (nI i)) (fun o => o = some (lN (if Nat.gcd (wts E x q 6) (wt E x w q) = 0 then t else (if t = 0 then wt E x w q else wts E x q 6) / Nat.gcd (wts E x q 6) (wt E x w q)))) (fun i a => a = wts E x q i) 6 0 0 (by omega) (by omega) rfl ?_ ?_
  · intro fu i a hi hp
    left
    refine ⟨a + wt E x i q, ?_, by show _ = wts E x q i + wt E x i q; rw [hp]⟩
    have hwt := Tweight h6 hn hE hB hi hq h1 h2
    have q1 : ¬ 6 ≤ i := by omega
    simp (maxSteps := 2000000) (disch := omega) only [f_T_likely_L65, gupE, gltE, gllE, litE, litLE, bindE, ↓reduceIte, gsi_at, gsi_l2, gsl_at, gsl_i1, upd_at, updL_at, Nat.reduceEqDiff, gix_nI, nI_clamp, bI_0, bI_gzb, Bool.true_eq_false, Bool.false_eq_true, nI_leI, q1, hwt, lN_add, nI_add]
  · intro fu a hp
    have hs := wts_lt hq hEx 6
    subst hp
    have hg : f_T_commonDivisor (lN (wts E x q 6)) (lN (wt E x w q)) = some (lN (Nat.gcd (wts E x q 6) (wt E x w q))) := by
      unfold f_T_commonDivisor
      simp only [litE]
      have e50 : (2 : Nat) ^ 50 = 1125899906842624 := by decide
      exact Tgcd 50 gfu _ _ 0 (by show 2 * 50 < 2000; decide) (by omega) (by omega) (by omega) (by omega)
    have q1 : nI 6 ≤ nI 6 := Int32.le_refl _
    have gle : Nat.gcd (wts E x q 6) (wt E x w q) ≤ 9000000000000000 := by
      by_cases z0 : wt E x w q = 0
      · rw [z0, Nat.gcd_zero_right]
        omega
      · have := Nat.gcd_le_right (n := wt E x w q) (wts E x q 6) (by omega)
        omega
    obtain ⟨g, hgg⟩ : ∃ g, g = Nat.gcd (wts E x q 6) (wt E x w q) := ⟨_, rfl⟩
    rw [← hgg] at hg gle ⊢
    by_cases g0 : g = 0
    · rw [if_pos g0]
      subst g0
      simp (maxSteps := 2000000) (disch := omega) only [f_T_likely_L65, gupE, gltE, gllE, litE, litLE, bindE, ↓reduceIte, gsi_at, gsi_l2, gsl_at, gsl_i1, upd_at, updL_at, Nat.reduceEqDiff, gix_nI, nI_clamp, bI_0, bI_gzb, Bool.true_eq_false, Bool.false_eq_true, q1, hg, lcmp0, nIl]
    · rw [if_neg g0]
      have g0' : ¬ lN g = lN 0 := by rw [lNz (by omega)]; exact g0
      by_cases t0 : t = 0
      · simp (maxSteps := 2000000) (disch := omega) only [f_T_likely_L65, gupE, gltE, gllE, litE, litLE, bindE, ↓reduceIte, gsi_at, gsi_l2, gsl_at, gsl_i1, upd_at, updL_at, Nat.reduceEqDiff, gix_nI, nI_clamp, bI_0, bI_gzb, Bool.true_eq_false, Bool.false_eq_true, q1, hg, lcmp0, g0', t0, pk_lDiv]
      · simp (maxSteps := 2000000) (disch := omega) only [f_T_likely_L65, gupE, gltE, gllE, litE, litLE, bindE, ↓reduceIte, gsi_at, gsi_l2, gsl_at, gsl_i1, upd_at, updL_at, Nat.reduceEqDiff, gix_nI, nI_clamp, bI_0, bI_gzb, Bool.true_eq_false, Bool.false_eq_true, q1, hg, lcmp0, g0', nI_eq, t0, pk_lDiv]
theorem Msum {σ : gS} {d z n q w t : Nat} {x : Nat → Int64} {E : Nat → Nat} (hd : d < 6) (h6 : σ.1 59 6 = nI n) (hn : n ≤ 10) (hE : ∀ c, c < n → σ.1 60 (10 + c) = nI (E c) ∧ E c < 13) (hB : MRow σ d z x) (hw : w < 6) (ht : t < 2) (hq : q ≤ 8) (h1 : ∀ i, i < q → two2 x z n i) (h2 : q = 8 ∨ ¬ two2 x z n q) (hw0 : wt E x w q ≠ 0) :
    f_M_likely_L54 σ gfu (nI d) (nI t) (lN (wt E x w q)) (lN 0) (nI 0) = some (lN ((if t = 0 then wt E x w q else wts E x q 6) / Nat.gcd (wts E x q 6) (wt E x w q))) := by
  have hEx : ∀ j, j < q → E (bv x (2 * j)) < 13 := fun j hj => (hE _ (bval.m hB (h1 j hj).1).1).2
  have hww := wt_lt (w := w) hq hEx
  refine loopG (fun fu i (a : Nat) => f_M_likely_L54 σ fu (nI d) (nI t) (lN (wt E x w q)) (lN a) (nI i)) (fun o => o = some (lN ((if t = 0 then wt E x w q else wts E x q 6) / Nat.gcd (wts E x q 6) (wt E x w q)))) (fun i a => a = wts E x q i) 6 0 0 (by omega) (by omega) rfl ?_ ?_
  · intro fu i a hi hp
    left
    refine ⟨a + wt E x i q, ?_, by show _ = wts E x q i + wt E x i q; rw [hp]⟩
    have hwt := Mweight hd h6 hn hE hB hi hq h1 h2
    have q1 : ¬ 6 ≤ i := by omega
    simp (maxSteps := 2000000) (disch := omega) only [f_M_likely_L54, gupE, gltE, gllE, litE, litLE, bindE, ↓reduceIte, gsi_at, gsi_l2, gsl_at, gsl_i1, upd_at, updL_at, Nat.reduceEqDiff, gix_nI, nI_clamp, bI_0, bI_gzb, Bool.true_eq_false, Bool.false_eq_true, nI_leI, q1, hwt, lN_add, nI_add]
  · intro fu a hp
    have hs := wts_lt hq hEx 6
    subst hp
    have e50 : (2 : Nat) ^ 50 = 1125899906842624 := by decide
    have hgne : Nat.gcd (wt E x w q) (wts E x q 6) ≠ 0 := fun k => hw0 (Nat.eq_zero_of_gcd_eq_zero_left k)
    have hg := Mgcd (σ := σ) (t := t) (A := wt E x w q) (Bb := wts E x q 6) ht (by omega) (by omega) 50 gfu (wt E x w q) (wts E x q 6) (by show 2 * 50 < 2000; decide) (by omega) (by omega) (by omega) hgne
    rw [Nat.gcd_comm] at hg
    have q1 : nI 6 ≤ nI 6 := Int32.le_refl _
    rw [← hg]
    simp (maxSteps := 2000000) (disch := omega) only [f_M_likely_L54, gupE, gltE, gllE, litE, litLE, bindE, ↓reduceIte, gsi_at, gsi_l2, gsl_at, gsl_i1, upd_at, updL_at, Nat.reduceEqDiff, gix_nI, nI_clamp, bI_0, bI_gzb, Bool.true_eq_false, Bool.false_eq_true, q1]
theorem ag_likely (v1 v2 v3 : Int32) : AgrL (f_T_likely v1 v2 v3) (f_M_likely v1 v2 v3) := by
  intro σ hR
  obtain ⟨n, K, E, P, B, F, W, D, m, hP, hT, hL, hC, hLe, hPi, hW, hS, h0⟩ := hR
  have hn := hP.1.1
  unfold f_T_likely f_M_likely
  have neg1 : (-nI 1 : Int32) < 0 := by decide
  cases hv : inb v1 6 with
  | false =>
    refine ⟨-9223372036854775808, ?_, ?_⟩
    · rw [show f_T_within v1 6 = some (bI false) from w3_f hv (by decide), bindE, if_pos (show bI false = 0 from rfl)]
    · rw [bytesIs_no hv, bindE, if_pos neg1]
  | true =>
    obtain ⟨d, hd, rfl⟩ := inb_of hv (by omega)
    have hw1 : f_T_within (nI d) 6 = some (bI true) := w3_t hv (by decide)
    have hMno : ∀ o : Option Int64, (∀ r, f_M_bytesIs (nI d) σ = some r → ¬ r < 0 → o = some (-9223372036854775808)) → (f_M_bytesIs (nI d) σ).bind (fun q1 => if q1 < 0 then some (-9223372036854775808 : Int64) else o) = some (-9223372036854775808) := by
      intro o ho
      have : ∃ r, f_M_bytesIs (nI d) σ = some r := by
        rcases bytes_c hS hW.1.1 hd with ⟨r, hr, -, -, e⟩ | ⟨z, x, -, -, e⟩
        · exact ⟨r, e⟩
        · exact ⟨_, e⟩
      obtain ⟨r, e⟩ := this
      rw [e, bindE]
      by_cases q : r < 0
      · rw [if_pos q]
      · rw [if_neg q]
        exact ho r e q
    cases hv2 : inb v2 6 with
    | false =>
      refine ⟨-9223372036854775808, ?_, hMno _ fun r _ _ => ?_⟩
      · rw [hw1, bindE, if_neg (by decide), show f_T_within v2 6 = some (bI false) from w3_f hv2 (by decide), bindE, if_pos (by decide)]
      · rw [isWeather_eq, hv2, bindE, if_pos (by decide)]
    | true =>
      obtain ⟨w, hw, rfl⟩ := inb_of hv2 (by omega)
      have hw2 : f_T_within (nI w) 6 = some (bI true) := w3_t hv2 (by decide)
      cases hv3 : inb v3 2 with
      | false =>
        refine ⟨-9223372036854775808, ?_, hMno _ fun r _ _ => ?_⟩
        · rw [hw1, bindE, if_neg (by decide), hw2, bindE, if_neg (by decide), show f_T_within v3 2 = some (bI false) from w3_f hv3 (by decide), bindE, if_pos (by decide)]
        · rw [isWeather_eq, hv2, bindE, if_neg (by decide), show f_M_within v3.toInt64 0 1 = some (bI false) from m3_f hv3 (by decide), bindE, if_pos (by decide)]
      | true =>
        obtain ⟨t, ht, rfl⟩ := inb_of hv3 (by omega)
        have hw3 : f_T_within (nI t) 2 = some (bI true) := w3_t hv3 (by decide)
        have hm3 : f_M_within (nI t).toInt64 0 1 = some (bI true) := m3_t hv3 (by decide)
        rcases bytes_c hS hW.1.1 hd with ⟨r, hr, e1, e2, e3⟩ | ⟨z, x, hB, e1, e3⟩
        · refine ⟨-9223372036854775808, ?_, ?_⟩
          · rw [hw1, bindE, if_neg (by decide), hw2, bindE, if_neg (by decide), hw3, bindE, if_neg (by decide), if_pos (gix_nI hd (by decide)), gshc_nI hd, e1, bindE, if_pos (by decide)]
          · have le : r < 0 := by rcases hr with rfl | rfl <;> decide
            rw [e3, bindE, if_pos le]
        · obtain ⟨q, hq, p1, p2⟩ := prefix_ex (two2 x z n) 8
          have hET : ∀ c, c < n → σ.1 3 c = nI (E c) ∧ E c < 13 := fun c hc => ⟨(hP.2.1 c hc).2.1.2.1, (hP.2.1 c hc).1.2.1⟩
          have hEM : ∀ c, c < n → σ.1 60 (10 + c) = nI (E c) ∧ E c < 13 := fun c hc => ⟨(hP.2.1 c hc).2.2.2.1, (hP.2.1 c hc).1.2.1⟩
          have hEx : ∀ j, j < q → E (bv x (2 * j)) < 13 := fun j hj => (hET _ (bval.v hB (p1 j hj).1).2.1).2
          have hww := wt_lt (w := w) hq hEx
          have hs := wts_lt hq hEx 6
          have hT := Tsum hP.1.2.1 hn hET hB hw ht hq p1 p2
          have hTw := Tweight hP.1.2.1 hn hET hB hw hq p1 p2
          have hMw := Mweight hd hP.1.2.2 hn hEM hB.m hw hq p1 p2
          refine ⟨lN (if Nat.gcd (wts E x q 6) (wt E x w q) = 0 then t else (if t = 0 then wt E x w q else wts E x q 6) / Nat.gcd (wts E x q 6) (wt E x w q)), ?_, ?_⟩
          · rw [hw1, bindE, if_neg (by decide), hw2, bindE, if_neg (by decide), hw3, bindE, if_neg (by decide), if_pos (gix_nI hd (by decide)), gshc_nI hd, e1, bindE, if_neg (by decide), hTw, bindE, ← hT]
            rfl
          · rw [e3, bindE, if_neg (by decide), isWeather_eq, hv2, bindE, if_neg (by decide), hm3, bindE, if_neg (by decide), hMw, bindE]
            by_cases w0 : wt E x w q = 0
            · have : lg_cmp (lN (wt E x w q)) 0 = 0 := by
                rw [w0]
                rfl
              rw [if_pos this, nIl (by omega)]
              congr 2
              rw [w0, Nat.gcd_zero_right]
              by_cases s0 : wts E x q 6 = 0
              · rw [if_pos s0]
              · rw [if_neg s0]
                by_cases t0 : t = 0
                · rw [if_pos t0, Nat.zero_div, t0]
                · rw [if_neg t0, Nat.div_self (by omega)]
                  omega
            · have hM := Msum hd hP.1.2.2 hn hEM hB.m hw ht hq p1 p2 w0
              have g0 : ¬ Nat.gcd (wts E x q 6) (wt E x w q) = 0 := fun k => w0 (Nat.eq_zero_of_gcd_eq_zero_right k)
              have : ¬ lg_cmp (lN (wt E x w q)) 0 = 0 := by
                have h1 := lcmp0 (lN (wt E x w q))
                intro k
                have h2 : lg_cmp (lN (wt E x w q)) (lN 0) = nI 0 := k
                rw [h1, lNz (by omega)] at h2
                exact w0 h2
              rw [if_neg this, if_neg g0, ← hM]
              rfl
