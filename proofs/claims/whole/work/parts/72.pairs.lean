/-! pure: pairs -/
theorem c68_s (c k : Nat) (h : c68 c k = true) : inT [0] c k = true := by
  unfold c68 at h
  simp only [Bool.and_eq_true, beq_iff_eq, Bool.not_eq_true', beq_eq_false_iff_ne, ne_eq] at h
  apply inT0
  simp only [cPeo, cTap, cLw, cChg, cLed, cPic, cWrd, cShv, Bool.or_eq_false_iff, Bool.and_eq_false_iff, beq_eq_false_iff_ne, ne_eq, decide_eq_false_iff_not]
  omega
theorem ag_pairs (v : Int32) : Agr (f_T_pairs v) (f_M_pairs v) := by
  intro σ hR0
  have hR := hR0
  obtain ⟨n, K, E, P, B, F, W, D, m, hP, hT, hL, hC, hLe, hPi, hW, hS, h0⟩ := hR
  obtain ⟨V, hV⟩ := hL.V
  have h : Ctx σ n K E P B F W D m V := ⟨hP, hV, hS⟩
  have hr := h.rg
  cases hv : inb v 3 with
  | false =>
    refine ⟨-nI 1, σ, σ, ?_, ?_, hR0⟩
    · unfold f_T_pairs
      simp (disch := omega) only [gupE, gltE, gllE, litE, litLE, bindE, ↓reduceIte, gsi_at, gsi_l2, gsl_at, gsl_i1, upd_at, updL_at, Nat.reduceEqDiff, gix_nI, nI_clamp, bI_0, bI_gzb, Bool.true_eq_false, Bool.false_eq_true, within_eq, hv]
    · unfold f_M_pairs
      simp (disch := omega) only [gupE, gltE, gllE, litE, litLE, bindE, ↓reduceIte, gsi_at, gsi_l2, gsl_at, gsl_i1, upd_at, updL_at, Nat.reduceEqDiff, gix_nI, nI_clamp, bI_0, bI_gzb, Bool.true_eq_false, Bool.false_eq_true, Mwithin0, hv]
  | true =>
    obtain ⟨j, hj, rfl⟩ := inb_of hv (by omega)
    obtain ⟨τ, a1, a2, a3⟩ := Gnow (Or.inl rfl) h
    have hRτ := hR0.frs a3
    have n10 : ¬ nI 1 = nI 0 := by decide
    have n20 : ¬ nI 2 = nI 0 := by decide
    have n21 : ¬ nI 2 = nI 1 := by decide
    by_cases j0 : j = 0
    · subst j0
      obtain ⟨τ2, b1, b2⟩ := Tcouples a2 hr
      obtain ⟨υ1, d0, d1, d2⟩ := Snow ((h.fr a3).fr b2)
      obtain ⟨υ2, d3, d4⟩ := Mmost d1 hr (k0 ((a3.tr b2).tr d2) rfl h0)
      refine ⟨nI (mm n (sy V K E P B F D) K W (2 ^ n - 1)), τ2, υ2, ?_, ?_, (((hRτ.frs b2).frs d2).frs (fr_no d4 c68_s))⟩
      · unfold f_T_pairs
        simp (disch := omega) only [gupE, gltE, gllE, litE, litLE, bindE, ↓reduceIte, gsi_at, gsi_l2, gsl_at, gsl_i1, upd_at, updL_at, Nat.reduceEqDiff, gix_nI, nI_clamp, bI_0, bI_gzb, Bool.true_eq_false, Bool.false_eq_true, within_eq, hv, a1, b1]
      · unfold f_M_pairs
        simp (disch := omega) only [gupE, gltE, gllE, litE, litLE, bindE, ↓reduceIte, gsi_at, gsi_l2, gsl_at, gsl_i1, upd_at, updL_at, Nat.reduceEqDiff, gix_nI, nI_clamp, bI_0, bI_gzb, Bool.true_eq_false, Bool.false_eq_true, Mwithin0, hv, d0, d3]
    · by_cases j1 : j = 1
      · subst j1
        obtain ⟨m1, τ2, g1, b1, b2, b3⟩ := Cdrought a2 hr
        have b3 := fr_no b3 (only_s (by omega))
        obtain ⟨υ1, d0, d1, d2⟩ := Snow ((h.fr a3).fr b3)
        obtain ⟨m2, υ2, g2, d3, d4, d5⟩ := Mdrought d1 hr
        rw [d4.eq b2] at d3
        refine ⟨nI m1, τ2, υ2, ?_, ?_, (((hRτ.frs b3).frs d2).frs (fr_no d5 (only_s (by omega))))⟩
        · unfold f_T_pairs
          simp (disch := omega) only [gupE, gltE, gllE, litE, litLE, bindE, ↓reduceIte, gsi_at, gsi_l2, gsl_at, gsl_i1, upd_at, updL_at, Nat.reduceEqDiff, gix_nI, nI_clamp, bI_0, bI_gzb, Bool.true_eq_false, Bool.false_eq_true, within_eq, hv, a1, b1, n10]
        · unfold f_M_pairs
          simp (disch := omega) only [gupE, gltE, gllE, litE, litLE, bindE, ↓reduceIte, gsi_at, gsi_l2, gsl_at, gsl_i1, upd_at, updL_at, Nat.reduceEqDiff, gix_nI, nI_clamp, bI_0, bI_gzb, Bool.true_eq_false, Bool.false_eq_true, Mwithin0, hv, d0, d3, n10]
      · have e2 : j = 2 := by omega
        subst e2
        obtain ⟨x, b1, b2⟩ := Calone a2 hr
        obtain ⟨υ1, d0, d1, d2⟩ := Snow (h.fr a3)
        obtain ⟨y, υ2, d3, d4, d5⟩ := Malone d1 hr
        rw [d4.eq b2] at d3
        refine ⟨nI x, τ, υ2, ?_, ?_, ((hRτ.frs d2).frs (fr_no d5 (only_s (by omega))))⟩
        · unfold f_T_pairs
          simp (disch := omega) only [gupE, gltE, gllE, litE, litLE, bindE, ↓reduceIte, gsi_at, gsi_l2, gsl_at, gsl_i1, upd_at, updL_at, Nat.reduceEqDiff, gix_nI, nI_clamp, bI_0, bI_gzb, Bool.true_eq_false, Bool.false_eq_true, within_eq, hv, a1, b1, n20, n21]
        · unfold f_M_pairs
          simp (disch := omega) only [gupE, gltE, gllE, litE, litLE, bindE, ↓reduceIte, gsi_at, gsi_l2, gsl_at, gsl_i1, upd_at, updL_at, Nat.reduceEqDiff, gix_nI, nI_clamp, bI_0, bI_gzb, Bool.true_eq_false, Bool.false_eq_true, Mwithin0, hv, d0, d3, n20, n21]
