/-! pure: shift, taken -/
theorem R.shv0 {σ υ : gS} (hR : R σ) (hF : Fr (inT [8, 0]) σ υ) (h : ∀ m, Wrd σ m → Shv σ m → Shv υ m) : R υ := by
  obtain ⟨n, K, E, P, B, F, W, D, m, hP, hT, hL, hC, hLe, hPi, hW, hS, h0⟩ := hR
  exact ⟨n, K, E, P, B, F, W, D, m, kPeo hF rfl hP, kTap hF rfl hT, kLw hF rfl hL, kChg hF rfl hC, kLed hF rfl hLe, kPic hF rfl hPi, kWrd hF rfl hW, h m hW hS, k0 hF rfl h0⟩
theorem cpy_at {α : Type} (f g : Nat → α) (i j n k : Nat) : va_cpy f g i j n k = if j ≤ k ∧ k < j + n then f (i + (k - j)) else g k := by
  by_cases h : j ≤ k ∧ k < j + n
  · rw [if_pos h, pk_cpy_in h.1 h.2]
  · rw [if_neg h, pk_cpy_out (by omega)]
theorem Mshift150 {e j n : Nat} (he : e < 6) (hj : j + n ≤ 60) (σ : gS) : ∃ τ, f_M_shift_L150 gfu (nI e) (nI j) (nI n) (nI 0) σ = some (nI n, τ) ∧ τ.1 = σ.1 ∧ (∀ c k, c ≠ 78 → τ.2 c k = σ.2 c k) ∧ ∀ k, τ.2 78 k = if 60 * e + j ≤ k ∧ k < 60 * e + j + n then σ.2 79 (k - (60 * e + j)) else σ.2 78 k := by
  refine loopG (fun fu i a => f_M_shift_L150 fu (nI e) (nI j) (nI n) (nI i) a) (fun o => ∃ τ, o = some (nI n, τ) ∧ τ.1 = σ.1 ∧ (∀ c k, c ≠ 78 → τ.2 c k = σ.2 c k) ∧ ∀ k, τ.2 78 k = if 60 * e + j ≤ k ∧ k < 60 * e + j + n then σ.2 79 (k - (60 * e + j)) else σ.2 78 k) (fun i τ => τ.1 = σ.1 ∧ (∀ c k, c ≠ 78 → τ.2 c k = σ.2 c k) ∧ ∀ k, τ.2 78 k = if 60 * e + j ≤ k ∧ k < 60 * e + j + i then σ.2 79 (k - (60 * e + j)) else σ.2 78 k) n 0 σ (by omega) (by omega) ⟨rfl, fun _ _ _ => rfl, fun k => by rw [if_neg (by omega)]⟩ ?_ ?_
  · rintro fu i a hi ⟨h1, h2, h3⟩
    left
    refine ⟨gpl a 78 (60 * e + j + i) (σ.2 79 i), ?_, h1, fun c k q => ?_, fun k => ?_⟩
    · have q : ¬ n ≤ i := by omega
      simp (disch := omega) only [f_M_shift_L150, gupE, gltE, gllE, litE, litLE, bindE, ↓reduceIte, gsi_at, gsi_l2, gsl_at, gsl_i1, upd_at, updL_at, Nat.reduceEqDiff, gix_nI, nI_clamp, bI_0, bI_gzb, Bool.true_eq_false, Bool.false_eq_true, i_eq32, nI_add, nI_leI, q, h2 79 i (by decide)]
    · rw [gpl_at, if_neg (fun z => q z.1)]
      exact h2 c k q
    · rw [gpl_at, h3]
      by_cases q : k = 60 * e + j + i
      · rw [if_pos ⟨rfl, q⟩, if_pos (by omega), show k - (60 * e + j) = i by omega]
      · rw [if_neg (fun z => q z.2)]
        by_cases q2 : 60 * e + j ≤ k ∧ k < 60 * e + j + i
        · rw [if_pos q2, if_pos (by omega)]
        · rw [if_neg q2, if_neg (by omega)]
  · rintro fu a ⟨h1, h2, h3⟩
    refine ⟨a, ?_, h1, h2, h3⟩
    have q : nI n ≤ nI n := Int32.le_refl _
    simp (disch := omega) only [f_M_shift_L150, gupE, gltE, gllE, litE, litLE, bindE, ↓reduceIte, gsi_at, gsi_l2, gsl_at, gsl_i1, upd_at, updL_at, Nat.reduceEqDiff, gix_nI, nI_clamp, bI_0, bI_gzb, Bool.true_eq_false, Bool.false_eq_true, q]
theorem Mshift113 {d i e j n : Nat} (hd : d < 6) (hi : i + n ≤ 60) (he : e < 6) (hj : j + n ≤ 60) (σ : gS) : ∃ τ, f_M_shift_L113 gfu (nI d) (nI i) (nI e) (nI j) (nI n) (nI 0) σ = some (nI n, τ) ∧ τ.1 = σ.1 ∧ (∀ c k, c ≠ 78 → c ≠ 79 → τ.2 c k = σ.2 c k) ∧ ∀ k, τ.2 78 k = if 60 * e + j ≤ k ∧ k < 60 * e + j + n then σ.2 78 (60 * d + i + (k - (60 * e + j))) else σ.2 78 k := by
  refine loopG (fun fu l a => f_M_shift_L113 fu (nI d) (nI i) (nI e) (nI j) (nI n) (nI l) a) (fun o => ∃ τ, o = some (nI n, τ) ∧ τ.1 = σ.1 ∧ (∀ c k, c ≠ 78 → c ≠ 79 → τ.2 c k = σ.2 c k) ∧ ∀ k, τ.2 78 k = if 60 * e + j ≤ k ∧ k < 60 * e + j + n then σ.2 78 (60 * d + i + (k - (60 * e + j))) else σ.2 78 k) (fun l τ => τ.1 = σ.1 ∧ (∀ c k, c ≠ 79 → τ.2 c k = σ.2 c k) ∧ ∀ k, k < l → τ.2 79 k = σ.2 78 (60 * d + i + k)) n 0 σ (by omega) (by omega) ⟨rfl, fun _ _ _ => rfl, fun k q => absurd q (Nat.not_lt_zero k)⟩ ?_ ?_
  · rintro fu l a hl ⟨h1, h2, h3⟩
    left
    refine ⟨gpl a 79 l (σ.2 78 (60 * d + i + l)), ?_, h1, fun c k q => ?_, fun k q2 => ?_⟩
    · have q : ¬ n ≤ l := by omega
      simp (disch := omega) only [f_M_shift_L113, gupE, gltE, gllE, litE, litLE, bindE, ↓reduceIte, gsi_at, gsi_l2, gsl_at, gsl_i1, upd_at, updL_at, Nat.reduceEqDiff, gix_nI, nI_clamp, bI_0, bI_gzb, Bool.true_eq_false, Bool.false_eq_true, i_eq32, nI_add, nI_leI, q, h2 78 _ (by decide)]
    · rw [gpl_at, if_neg (fun z => q z.1)]
      exact h2 c k q
    · rw [gpl_at]
      by_cases q : k = l
      · rw [if_pos ⟨rfl, q⟩, q]
      · rw [if_neg (fun z => q z.2)]
        exact h3 k (by omega)
  · rintro fu a ⟨h1, h2, h3⟩
    obtain ⟨τ, t1, t2, t3, t4⟩ := Mshift150 he hj a
    refine ⟨τ, ?_, t2.trans h1, fun c k q1 q2 => (t3 c k q1).trans (h2 c k q2), fun k => ?_⟩
    · have q : nI n ≤ nI n := Int32.le_refl _
      rw [← t1]
      simp (disch := omega) only [f_M_shift_L113, gupE, gltE, gllE, litE, litLE, bindE, ↓reduceIte, gsi_at, gsi_l2, gsl_at, gsl_i1, upd_at, updL_at, Nat.reduceEqDiff, gix_nI, nI_clamp, bI_0, bI_gzb, Bool.true_eq_false, Bool.false_eq_true, q]
    · rw [t4, h2 78 k (by decide)]
      by_cases q : 60 * e + j ≤ k ∧ k < 60 * e + j + n
      · rw [if_pos q, if_pos q, h3 _ (by omega)]
      · rw [if_neg q, if_neg q]
theorem ag_shift (v1 v2 v3 v4 v5 : Int32) : Agr (f_T_shift v1 v2 v3 v4 v5) (f_M_shift v1 v2 v3 v4 v5) := by
  intro σ hR
  have hR0 := hR
  obtain ⟨n, K, E, P, B, F, W, D, m, hP, hT, hL, hC, hLe, hPi, hW, hS, h0⟩ := hR
  have hm := hW.1.1
  unfold f_T_shift f_M_shift
  cases hv : inb v1 6 with
  | false =>
    refine ⟨-nI 1, σ, σ, ?_, ?_, hR0⟩
    · rw [show f_T_within v1 6 = some (bI false) by rw [← hv]; exact within_eq v1 (by decide), bindE, if_pos (show bI false = 0 from rfl)]
      rfl
    · rw [isShelf_eq, hv, bindE, if_pos (show bI false = 0 from rfl)]
      rfl
  | true =>
    cases hv3 : inb v3 6 with
    | false =>
      refine ⟨-nI 1, σ, σ, ?_, ?_, hR0⟩
      · rw [show f_T_within v1 6 = some (bI true) by rw [← hv]; exact within_eq v1 (by decide), bindE, if_neg (show ¬ bI true = 0 by decide), show f_T_within v3 6 = some (bI false) by rw [← hv3]; exact within_eq v3 (by decide), bindE, if_pos (show bI false = 0 from rfl)]
        rfl
      · rw [isShelf_eq, hv, bindE, if_neg (show ¬ bI true = 0 by decide), isShelf_eq, hv3, bindE, if_pos (show bI false = 0 from rfl)]
        rfl
    | true =>
      obtain ⟨d, hd, rfl⟩ := inb_of hv (by omega)
      obtain ⟨e, he, rfl⟩ := inb_of hv3 (by omega)
      have n02 : ¬ nI 0 = nI 2 := by decide
      have n12 : ¬ nI 1 = nI 2 := by decide
      have n10 : ¬ nI 1 = nI 0 := by decide
      have n20 : ¬ nI 2 = nI 0 := by decide
      have m1 : (-nI 1 < nI 0) = True := by decide
      have m2 : (nI 0 ≤ -nI 1) = False := by decide
      have wl : ∀ w, w < 100 → (nI w < nI 0) = False := fun w hw => not_lt0 w (by omega)
      have wg : ∀ w, w < 100 → nI 0 ≤ nI w := fun w hw => nI_pos' (by omega)
      rcases id (hS d hd) with ⟨a1, a2⟩ | ⟨w, hw, a1, a2, a3⟩ | ⟨s, z, ⟨hs, hz⟩, ⟨a1, a2, a3⟩, ⟨a4, a5⟩, a6⟩
      · refine ⟨-nI 11, σ, σ, ?_, ?_, hR0⟩
        · simp (maxSteps := 2000000) (disch := omega) only [gupE, gltE, gllE, litE, litLE, bindE, ↓reduceIte, gsi_at, gsi_l2, gsl_at, gsl_i1, upd_at, updL_at, Nat.reduceEqDiff, gix_nI, nI_clamp, bI_0, bI_gzb, Bool.true_eq_false, Bool.false_eq_true, within_eq, hv, hv3, gshc_nI hd, a1]
        · simp (maxSteps := 2000000) (disch := omega) only [gupE, gltE, gllE, litE, litLE, bindE, ↓reduceIte, gsi_at, gsi_l2, gsl_at, gsl_i1, upd_at, updL_at, Nat.reduceEqDiff, gix_nI, nI_clamp, bI_0, bI_gzb, Bool.true_eq_false, Bool.false_eq_true, isShelf_eq, hv, hv3, a2, m1]
      · rcases id (hS e he) with ⟨b1, b2⟩ | ⟨w', hw', b1, b2, b3⟩ | ⟨s', z', ⟨hs', hz'⟩, ⟨b1, b2, b3⟩, ⟨b4, b5⟩, b6⟩
        · refine ⟨-nI 11, σ, σ, ?_, ?_, hR0⟩
          · simp (maxSteps := 2000000) (disch := omega) only [gupE, gltE, gllE, litE, litLE, bindE, ↓reduceIte, gsi_at, gsi_l2, gsl_at, gsl_i1, upd_at, updL_at, Nat.reduceEqDiff, gix_nI, nI_clamp, bI_0, bI_gzb, Bool.true_eq_false, Bool.false_eq_true, within_eq, hv, hv3, gshc_nI hd, gshc_nI he, a1, b1, n10]
          · simp (maxSteps := 2000000) (disch := omega) only [gupE, gltE, gllE, litE, litLE, bindE, ↓reduceIte, gsi_at, gsi_l2, gsl_at, gsl_i1, upd_at, updL_at, Nat.reduceEqDiff, gix_nI, nI_clamp, bI_0, bI_gzb, Bool.true_eq_false, Bool.false_eq_true, isShelf_eq, hv, hv3, a3, b2, wl, m2]
        · have w50 : w < 50 := by omega
          refine ⟨-nI 12, σ, σ, ?_, ?_, hR0⟩
          · simp (maxSteps := 2000000) (disch := omega) only [gupE, gltE, gllE, litE, litLE, bindE, ↓reduceIte, gsi_at, gsi_l2, gsl_at, gsl_i1, upd_at, updL_at, Nat.reduceEqDiff, gix_nI, nI_clamp, bI_0, bI_gzb, Bool.true_eq_false, Bool.false_eq_true, within_eq, hv, hv3, gshc_nI hd, gshc_nI he, a1, b1, n10, n12]
          · simp (maxSteps := 2000000) (disch := omega) only [gupE, gltE, gllE, litE, litLE, bindE, ↓reduceIte, gsi_at, gsi_l2, gsl_at, gsl_i1, upd_at, updL_at, Nat.reduceEqDiff, gix_nI, nI_clamp, bI_0, bI_gzb, Bool.true_eq_false, Bool.false_eq_true, isShelf_eq, hv, hv3, a3, b3, wl, wg, nI_ltI, w50]
        · have w50 : w < 50 := by omega
          refine ⟨-nI 12, σ, σ, ?_, ?_, hR0⟩
          · simp (maxSteps := 2000000) (disch := omega) only [gupE, gltE, gllE, litE, litLE, bindE, ↓reduceIte, gsi_at, gsi_l2, gsl_at, gsl_i1, upd_at, updL_at, Nat.reduceEqDiff, gix_nI, nI_clamp, bI_0, bI_gzb, Bool.true_eq_false, Bool.false_eq_true, within_eq, hv, hv3, gshc_nI hd, gshc_nI he, a1, b1, n10, n12, n20]
          · simp (maxSteps := 2000000) (disch := omega) only [gupE, gltE, gllE, litE, litLE, bindE, ↓reduceIte, gsi_at, gsi_l2, gsl_at, gsl_i1, upd_at, updL_at, Nat.reduceEqDiff, gix_nI, nI_clamp, bI_0, bI_gzb, Bool.true_eq_false, Bool.false_eq_true, isShelf_eq, hv, hv3, a3, b4, wl, wg, nI_ltI, w50]
      · rcases id (hS e he) with ⟨b1, b2⟩ | ⟨w', hw', b1, b2, b3⟩ | ⟨s', z', ⟨hs', hz'⟩, ⟨b1, b2, b3⟩, ⟨b4, b5⟩, b6⟩
        · refine ⟨-nI 11, σ, σ, ?_, ?_, hR0⟩
          · simp (maxSteps := 2000000) (disch := omega) only [gupE, gltE, gllE, litE, litLE, bindE, ↓reduceIte, gsi_at, gsi_l2, gsl_at, gsl_i1, upd_at, updL_at, Nat.reduceEqDiff, gix_nI, nI_clamp, bI_0, bI_gzb, Bool.true_eq_false, Bool.false_eq_true, within_eq, hv, hv3, gshc_nI hd, gshc_nI he, a1, b1, n20]
          · simp (maxSteps := 2000000) (disch := omega) only [gupE, gltE, gllE, litE, litLE, bindE, ↓reduceIte, gsi_at, gsi_l2, gsl_at, gsl_i1, upd_at, updL_at, Nat.reduceEqDiff, gix_nI, nI_clamp, bI_0, bI_gzb, Bool.true_eq_false, Bool.false_eq_true, isShelf_eq, hv, hv3, a4, b2, wl, m2]
        · have w50 : ¬ 50 + s < 50 := by omega
          have w51 : ¬ 50 + s = w' := by omega
          refine ⟨-nI 12, σ, σ, ?_, ?_, hR0⟩
          · simp (maxSteps := 2000000) (disch := omega) only [gupE, gltE, gllE, litE, litLE, bindE, ↓reduceIte, gsi_at, gsi_l2, gsl_at, gsl_i1, upd_at, updL_at, Nat.reduceEqDiff, gix_nI, nI_clamp, bI_0, bI_gzb, Bool.true_eq_false, Bool.false_eq_true, within_eq, hv, hv3, gshc_nI hd, gshc_nI he, a1, b1, n10, n12, n20]
          · simp (maxSteps := 2000000) (disch := omega) only [gupE, gltE, gllE, litE, litLE, bindE, ↓reduceIte, gsi_at, gsi_l2, gsl_at, gsl_i1, upd_at, updL_at, Nat.reduceEqDiff, gix_nI, nI_clamp, bI_0, bI_gzb, Bool.true_eq_false, Bool.false_eq_true, isShelf_eq, hv, hv3, a4, b3, wl, wg, nI_ltI, w50, nI_eq, w51]
        · have w50 : ¬ 50 + s < 50 := by omega
          by_cases hss : s = s'
          · subst hss
            cases h1 : hasb z v2 v5 with
            | false =>
              refine ⟨-nI 13, σ, σ, ?_, ?_, hR0⟩
              · simp (maxSteps := 2000000) (disch := omega) only [gupE, gltE, gllE, litE, litLE, bindE, ↓reduceIte, gsi_at, gsi_l2, gsl_at, gsl_i1, upd_at, updL_at, Nat.reduceEqDiff, gix_nI, nI_clamp, bI_0, bI_gzb, Bool.true_eq_false, Bool.false_eq_true, within_eq, hv, hv3, gshc_nI hd, gshc_nI he, a1, b1, n20, a2, b2, has_gen a3 hz, h1]
              · have hno : ¬ (0 ≤ v2.toInt ∧ 0 ≤ v5.toInt ∧ v2.toInt + v5.toInt ≤ (z : Int)) := by
                  unfold hasb at h1
                  exact of_decide_eq_false h1
                simp (maxSteps := 2000000) (disch := omega) only [gupE, gltE, gllE, litE, litLE, bindE, ↓reduceIte, gsi_at, gsi_l2, gsl_at, gsl_i1, upd_at, updL_at, Nat.reduceEqDiff, gix_nI, nI_clamp, bI_0, bI_gzb, Bool.true_eq_false, Bool.false_eq_true, isShelf_eq, hv, hv3, a4, b4, wl, wg, nI_ltI, w50, lt0_iff]
                by_cases q5 : v5.toInt < 0
                · simp only [q5, ↓reduceIte]
                · by_cases q2 : v2.toInt < 0
                  · simp only [q5, q2, ↓reduceIte]
                  · by_cases q4 : v4.toInt < 0
                    · simp only [q5, q2, q4, ↓reduceIte]
                    · obtain ⟨n', hn', rfl⟩ := nonneg_nI (v := v5) (by omega)
                      obtain ⟨i', hi', rfl⟩ := nonneg_nI (v := v2) (by omega)
                      have hlt : (nI z - nI n') < nI i' := by
                        rw [i_lt, nI_toInt (by omega)]
                        rw [nI_toInt (by omega), nI_toInt (by omega)] at hno
                        have : (nI z - nI n').toInt = (z : Int) - n' := by
                          rw [Int32.toInt_sub, nI_toInt (by omega), nI_toInt (by omega)]
                          exact Int.bmod_eq_of_le (by omega) (by omega)
                        omega
                      simp only [q5, q2, q4, ↓reduceIte, a5, hlt]
            | true =>
              have h1' : 0 ≤ v2.toInt ∧ 0 ≤ v5.toInt ∧ v2.toInt + v5.toInt ≤ (z : Int) := by
                unfold hasb at h1
                exact of_decide_eq_true h1
              obtain ⟨n', hn', rfl⟩ := nonneg_nI (v := v5) (by omega)
              obtain ⟨i', hi', rfl⟩ := nonneg_nI (v := v2) (by omega)
              rw [nI_toInt (by omega), nI_toInt (by omega)] at h1'
              have hlt : ¬ z - n' < i' := by omega
              cases h2 : hasb z' v4 (nI n') with
              | false =>
                refine ⟨-nI 13, σ, σ, ?_, ?_, hR0⟩
                · simp (maxSteps := 2000000) (disch := omega) only [gupE, gltE, gllE, litE, litLE, bindE, ↓reduceIte, gsi_at, gsi_l2, gsl_at, gsl_i1, upd_at, updL_at, Nat.reduceEqDiff, gix_nI, nI_clamp, bI_0, bI_gzb, Bool.true_eq_false, Bool.false_eq_true, within_eq, hv, hv3, gshc_nI hd, gshc_nI he, a1, b1, n20, a2, b2, has_gen a3 hz, h1, has_gen b3 hz', h2]
                · have hno : ¬ (0 ≤ v4.toInt ∧ 0 ≤ (nI n').toInt ∧ v4.toInt + (nI n').toInt ≤ (z' : Int)) := by
                    unfold hasb at h2
                    exact of_decide_eq_false h2
                  simp (maxSteps := 2000000) (disch := omega) only [gupE, gltE, gllE, litE, litLE, bindE, ↓reduceIte, gsi_at, gsi_l2, gsl_at, gsl_i1, upd_at, updL_at, Nat.reduceEqDiff, gix_nI, nI_clamp, bI_0, bI_gzb, Bool.true_eq_false, Bool.false_eq_true, isShelf_eq, hv, hv3, a4, b4, wl, wg, nI_ltI, w50, not_lt0]
                  by_cases q4 : v4.toInt < 0
                  · simp only [lt0_iff, q4, ↓reduceIte]
                  · obtain ⟨j', hj', rfl⟩ := nonneg_nI (v := v4) (by omega)
                    have hle : ¬ nI j' ≤ nI z' - nI n' := by
                      rw [i_le, nI_toInt (by omega)]
                      rw [nI_toInt (by omega), nI_toInt (by omega)] at hno
                      have : (nI z' - nI n').toInt = (z' : Int) - n' := by
                        rw [Int32.toInt_sub, nI_toInt (by omega), nI_toInt (by omega)]
                        exact Int.bmod_eq_of_le (by omega) (by omega)
                      omega
                    simp (disch := omega) only [lt0_iff, q4, ↓reduceIte, a5, b5, pk_sub, nI_ltI, hlt, hle]
              | true =>
                have h2' : 0 ≤ v4.toInt ∧ 0 ≤ (nI n').toInt ∧ v4.toInt + (nI n').toInt ≤ (z' : Int) := by
                  unfold hasb at h2
                  exact of_decide_eq_true h2
                obtain ⟨j', hj', rfl⟩ := nonneg_nI (v := v4) (by omega)
                rw [nI_toInt (by omega), nI_toInt (by omega)] at h2'
                have hle : j' ≤ z' - n' := by omega
                obtain ⟨τ, hτ⟩ : ∃ τ, τ = gsl σ (48 + 2 * e) (va_cpy (σ.2 (48 + 2 * d)) (σ.2 (48 + 2 * e)) i' j' n') := ⟨_, rfl⟩
                have t1 : τ.1 = σ.1 := by rw [hτ]; rfl
                have t2 : ∀ c k, τ.2 c k = if c = 48 + 2 * e then (if j' ≤ k ∧ k < j' + n' then σ.2 (48 + 2 * d) (i' + (k - j')) else σ.2 (48 + 2 * e) k) else σ.2 c k := fun c k => by
                  rw [hτ, gsl_at, cpy_at]
                have t78 : ∀ k, τ.2 78 k = σ.2 78 k := fun k => by rw [t2, if_neg (by omega)]
                obtain ⟨υ, u1, u2, u3, u4⟩ := Mshift113 (i := i') (j := j') (n := n') hd (by omega) he (by omega) τ
                refine ⟨nI n', τ, υ, ?_, ?_, hR0.shv0 ?_ fun m' hW' hS' => ?_⟩
                · have hc : gcpy (nI i') (nI j') (nI n') 60 60 = true := by
                    unfold gcpy
                    have q1 : ¬ nI i' < 0 := nI_pos (by omega)
                    have q2 : ¬ nI j' < 0 := nI_pos (by omega)
                    have q3 : ¬ nI n' < 0 := nI_pos (by omega)
                    rw [decide_eq_false q1, decide_eq_false q2, decide_eq_false q3, nI_clamp (by omega), nI_clamp (by omega), nI_clamp (by omega), decide_eq_true (show i' + n' ≤ 60 by omega), decide_eq_true (show j' + n' ≤ 60 by omega)]
                    rfl
                  have e1 : 47 + 2 * e + 1 = 48 + 2 * e := by omega
                  have e2 : 47 + 2 * d + 1 = 48 + 2 * d := by omega
                  simp (maxSteps := 2000000) (disch := omega) only [gupE, gltE, gllE, litE, litLE, bindE, ↓reduceIte, gsi_at, gsi_l2, gsl_at, gsl_i1, upd_at, updL_at, Nat.reduceEqDiff, gix_nI, nI_clamp, bI_0, bI_gzb, Bool.true_eq_false, Bool.false_eq_true, within_eq, hv, hv3, gshc_nI hd, gshc_nI he, a1, b1, n20, a2, b2, has_gen a3 hz, h1, has_gen b3 hz', h2, hc, e1, e2]
                  rw [← hτ]
                · generalize f_M_shift_L113 gfu = G at u1 ⊢
                  simp (maxSteps := 2000000) (disch := omega) only [gupE, gltE, gllE, litE, litLE, bindE, ↓reduceIte, gsi_at, gsi_l2, gsl_at, gsl_i1, upd_at, updL_at, Nat.reduceEqDiff, gix_nI, nI_clamp, bI_0, bI_gzb, Bool.true_eq_false, Bool.false_eq_true, isShelf_eq, hv, hv3, t1, a4, b4, wl, wg, nI_ltI, w50, not_lt0, a5, b5, pk_sub, hlt, nI_leI, hle]
                  exact u1
                · refine ⟨fun c k q => by rw [u2, t1], fun c k q => ?_⟩
                  have q1 : c ≠ 78 := by
                    rintro rfl
                    rw [show inT [8, 0] 78 k = true from rfl] at q
                    cases q
                  have q79 : c ≠ 79 := by
                    rintro rfl
                    rw [show inT [8, 0] 79 k = true from rfl] at q
                    cases q
                  rw [u3 c k q1 q79, t2, if_neg]
                  rintro rfl
                  have := inS48 he k
                  unfold inT at q this
                  simp only [List.contains_cons, Bool.or_eq_false_iff, List.contains_nil, Bool.or_eq_true] at q this
                  rcases this with z | z
                  · rw [q.1] at z
                    cases z
                  · cases z
                · refine hS'.upd (d := e) ?_ fun e' he' hne => ⟨fun k => by rw [u2, t1], by rw [u2, t1], by rw [u2, t1], fun k => ?_, fun k hk => ?_⟩
                  · right
                    right
                    refine ⟨s, z', ⟨hs', hz'⟩, ?_, ?_, fun k hk => ?_⟩
                    · rw [u2, t1]
                      exact ⟨b1, b2, b3⟩
                    · rw [u2, t1]
                      exact ⟨b4, b5⟩
                    · rw [u3 _ _ (by omega) (by omega), t2, if_pos rfl, u4, t78, t78]
                      by_cases q : j' ≤ k ∧ k < j' + n'
                      · rw [if_pos q, if_pos (by omega)]
                        have := a6 (i' + (k - j')) (by omega)
                        have e3 : 60 * d + i' + (60 * e + k - (60 * e + j')) = 60 * d + (i' + (k - j')) := by omega
                        rw [e3]
                        exact this
                      · rw [if_neg q, if_neg (by omega)]
                        exact b6 k hk
                  · rw [u3 _ _ (by omega) (by omega), t2, if_neg (by omega)]
                  · rw [u4, if_neg (by omega), t78]
          · have w51 : ¬ 50 + s = 50 + s' := by omega
            refine ⟨-nI 12, σ, σ, ?_, ?_, hR0⟩
            · simp (maxSteps := 2000000) (disch := omega) only [gupE, gltE, gllE, litE, litLE, bindE, ↓reduceIte, gsi_at, gsi_l2, gsl_at, gsl_i1, upd_at, updL_at, Nat.reduceEqDiff, gix_nI, nI_clamp, bI_0, bI_gzb, Bool.true_eq_false, Bool.false_eq_true, within_eq, hv, hv3, gshc_nI hd, gshc_nI he, a1, b1, n20, a2, b2, nI_eq, hss]
            · simp (maxSteps := 2000000) (disch := omega) only [gupE, gltE, gllE, litE, litLE, bindE, ↓reduceIte, gsi_at, gsi_l2, gsl_at, gsl_i1, upd_at, updL_at, Nat.reduceEqDiff, gix_nI, nI_clamp, bI_0, bI_gzb, Bool.true_eq_false, Bool.false_eq_true, isShelf_eq, hv, hv3, a4, b4, wl, wg, nI_ltI, w50, nI_eq, w51]
