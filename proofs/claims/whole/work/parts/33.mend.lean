/-! pure: numbers of citizens: mend, of, undo, redo -/
theorem Mwithin_p (v : Int32) {a b : Nat} (h0 : 0 < a) (ha : a < 2147483648) (hb : b < 2147483648) : f_M_within v.toInt64 (lN a) (lN b) = some (bI (decide ((a : Int) ≤ v.toInt) && decide (v.toInt ≤ (b : Int)))) := Mwithin_i v ha hb
theorem neg1_lt : (-nI 1 < nI 0) = True := by decide
theorem not_lt0 (k : Nat) (h : k < 2147483648) : (nI k < nI 0) = False := by
  rw [nI_ltI (by omega) (by omega)]
  simp
def knb (n : Nat) (v1 v2 : Int32) : Bool := inb v2 7 && (if inb v2 4 then inb v1 n else decide (v1 = nI 0))
theorem knb_t {n : Nat} {v1 v2 : Int32} (hn : n ≤ 10) (h : knb n v1 v2 = true) : ∃ w u : Nat, v2 = nI w ∧ v1 = nI u ∧ okn n w u := by
  unfold knb at h
  simp only [Bool.and_eq_true] at h
  obtain ⟨w, hw, rfl⟩ := inb_of h.1 (by decide)
  simp (disch := omega) only [inb_nI] at h
  by_cases h4 : w < 4
  · simp only [h4, decide_true, if_true] at h
    obtain ⟨u, hu, rfl⟩ := inb_of h.2 (by omega)
    exact ⟨w, u, rfl, rfl, hw, fun _ => hu, fun q => by omega⟩
  · simp only [h4, decide_false, Bool.false_eq_true, if_false, decide_eq_true_eq] at h
    exact ⟨w, 0, rfl, h.2, hw, fun q => by omega, fun _ => rfl⟩
theorem knb_of {n w u : Nat} (hn : n ≤ 10) (h : okn n w u) : knb n (nI u) (nI w) = true := by
  obtain ⟨h1, h2, h3⟩ := h
  unfold knb
  by_cases h4 : w < 4
  · have := h2 h4
    simp (disch := omega) only [inb_nI, h1, h4, this, decide_true, if_true, Bool.and_self]
  · have := h3 (by omega)
    subst this
    simp (disch := omega) only [inb_nI, h1, h4, decide_true, decide_false, Bool.false_eq_true, if_false, Bool.and_self]
theorem knows_eq {σ : gS} {n : Nat} (h : σ.1 1 6 = nI n) (hn : n ≤ 10) (v1 v2 : Int32) : f_Isl_knows v1 v2 σ = some (bI (knb n v1 v2)) := by
  unfold f_Isl_knows knb
  simp (disch := omega) only [gupE, gltE, gllE, litE, litLE, bindE, ↓reduceIte, gsi_at, gsi_l2, gsl_at, gsl_i1, upd_at, updL_at, Nat.reduceEqDiff, gix_nI, nI_clamp, bI_0, bI_gzb, Bool.true_eq_false, Bool.false_eq_true, within_eq, h]
  cases h7 : inb v2 7 with
  | false => simp [bI]
  | true =>
    obtain ⟨w, hw, rfl⟩ := inb_of h7 (by decide)
    simp (disch := omega) only [Bool.true_eq_false, ↓reduceIte, nI_leI, inb_nI, Bool.true_and]
    by_cases h4 : w < 4
    · have h4' : ¬ 4 ≤ w := by omega
      simp [h4, h4']
    · have h4' : 4 ≤ w := by omega
      simp only [h4, h4', ↓reduceIte, decide_false, Bool.false_eq_true]
      by_cases e : v1 = nI 0 <;> simp [e, bI]
theorem isWeather_eq (v : Int32) : f_M_isWeather v.toInt64 = some (bI (inb v 6)) := by
  unfold f_M_isWeather
  simp (disch := omega) only [gupE, gltE, gllE, litE, litLE, bindE, ↓reduceIte, gsi_at, gsi_l2, gsl_at, gsl_i1, upd_at, updL_at, Nat.reduceEqDiff, gix_nI, nI_clamp, bI_0, bI_gzb, Bool.true_eq_false, Bool.false_eq_true, Mwithin0]
theorem isOne_eq {σ : gS} {n : Nat} (h : σ.1 59 6 = nI n) (hn : n ≤ 10) (v : Int32) : f_M_isOne v.toInt64 σ = some (bI (inb v n)) := by
  unfold f_M_isOne
  simp (disch := omega) only [gupE, gltE, gllE, litE, litLE, bindE, ↓reduceIte, gsi_at, gsi_l2, gsl_at, gsl_i1, upd_at, updL_at, Nat.reduceEqDiff, gix_nI, nI_clamp, bI_0, bI_gzb, Bool.true_eq_false, Bool.false_eq_true, h, Mwithin, Int32.toInt_toInt64, pk_sub_toInt, lN_tI]
  have : (decide (((0 : Nat) : Int) ≤ v.toInt) && decide (v.toInt ≤ (n : Int) - ((1 : Nat) : Int))) = inb v n := by
    unfold inb
    congr 2
    apply propext
    omega
  rw [this]
theorem place_f {σ : gS} {n : Nat} (h : σ.1 59 6 = nI n) (hn : n ≤ 10) (v1 v2 : Int32) (hk : knb n v1 v2 = false) : f_M_placeOf v1 v2 σ = some (-nI 1) := by
  unfold f_M_placeOf
  unfold knb at hk
  simp (disch := omega) only [gupE, gltE, gllE, litE, litLE, bindE, ↓reduceIte, gsi_at, gsi_l2, gsl_at, gsl_i1, upd_at, updL_at, Nat.reduceEqDiff, gix_nI, nI_clamp, bI_0, bI_gzb, Bool.true_eq_false, Bool.false_eq_true, Mwithin0, isOne_eq h hn, Mwithin_p]
  cases h4 : inb v2 4 with
  | true =>
    obtain ⟨w, hw, rfl⟩ := inb_of h4 (by decide)
    simp (disch := omega) only [inb_nI, h4, ↓reduceIte] at hk
    have h7 : w < 7 := by omega
    simp only [h7, decide_true, Bool.true_and] at hk
    simp only [Bool.true_eq_false, ↓reduceIte, hk]
  | false =>
    simp only [h4, Bool.false_eq_true, ↓reduceIte] at hk
    simp only [↓reduceIte]
    by_cases e : v1 = nI 0
    · simp only [e, decide_true, Bool.and_true] at hk
      have h1 := inb_no hk
      have h2 := inb_no h4
      have : (decide (((4 : Nat) : Int) ≤ v2.toInt) && decide (v2.toInt ≤ ((6 : Nat) : Int))) = false := by
        simp
        omega
      simp only [e, this, ↓reduceIte]
    · simp only [e, ↓reduceIte]
theorem place_t {σ : gS} {n : Nat} (h : σ.1 59 6 = nI n) (hn : n ≤ 10) {w u : Nat} (hk : okn n w u) : f_M_placeOf (nI u) (nI w) σ = some (nI (plc w u)) := by
  obtain ⟨h1, h2, h3⟩ := hk
  unfold f_M_placeOf plc
  simp (disch := omega) only [gupE, gltE, gllE, litE, litLE, bindE, ↓reduceIte, gsi_at, gsi_l2, gsl_at, gsl_i1, upd_at, updL_at, Nat.reduceEqDiff, gix_nI, nI_clamp, bI_0, bI_gzb, Bool.true_eq_false, Bool.false_eq_true, Mwithin0, isOne_eq h hn, Mwithin_p, inb_nI, nI_toInt]
  by_cases h4 : w < 4
  · have hu := h2 h4
    simp only [h4, hu, decide_true, Bool.true_eq_false, ↓reduceIte, pk_mul, nI_add]
  · have hu := h3 (by omega)
    subst hu
    have e : (decide (((4 : Nat) : Int) ≤ (w : Int)) && decide ((w : Int) ≤ ((6 : Nat) : Int))) = true := by
      simp
      omega
    simp (disch := omega) only [h4, decide_false, ↓reduceIte, e, Bool.true_eq_false, nI_add, pk_sub]
    congr 2
    omega
theorem okv0 (v : Int32) : okv 0 v = inb v 8 := by
  unfold okv inb
  rw [show (lst 0).toInt = 0 from by decide, show (mst 0).toInt = 7 from by decide]
  congr 2
  apply propext
  omega
theorem okv1 (v : Int32) : okv 1 v = inb v 13 := by
  unfold okv inb
  rw [show (lst 1).toInt = 0 from by decide, show (mst 1).toInt = 12 from by decide]
  congr 2
  apply propext
  omega
theorem okv2 (v : Int32) : okv 2 v = inb v 100 := by
  unfold okv inb
  rw [show (lst 2).toInt = 0 from by decide, show (mst 2).toInt = 99 from by decide]
  congr 2
  apply propext
  omega
theorem okv3 (v : Int32) : okv 3 v = (decide (v = -1) || inb v 6) := by
  unfold okv inb
  rw [show (lst 3).toInt = -1 from by decide, show (mst 3).toInt = 5 from by decide]
  have : (v = -1) ↔ v.toInt = -1 := by
    rw [← Int32.toInt_inj]
    rfl
  by_cases e : v = -1
  · have e2 := this.mp e
    simp [e]
  · have e2 : ¬ v.toInt = -1 := fun q => e (this.mpr q)
    simp only [e, decide_false, Bool.false_or]
    by_cases h1 : 0 ≤ v.toInt
    · have h3 : -1 ≤ v.toInt := by omega
      simp only [h1, h3, decide_true, Bool.true_and]
      congr 1
      apply propext
      omega
    · have h3 : ¬ -1 ≤ v.toInt := by omega
      simp [h1, h3]
theorem okv4 (v : Int32) : okv 4 v = inb v 6 := by
  unfold okv inb
  rw [show (lst 4).toInt = 0 from by decide, show (mst 4).toInt = 5 from by decide]
  congr 2
  apply propext
  omega
theorem okv5 (v : Int32) : okv 5 v = inb v 3 := by
  unfold okv inb
  rw [show (lst 5).toInt = 0 from by decide, show (mst 5).toInt = 2 from by decide]
  congr 2
  apply propext
  omega
theorem okv6 (v : Int32) : okv 6 v = inb v 100 := by
  unfold okv inb
  rw [show (lst 6).toInt = 0 from by decide, show (mst 6).toInt = 99 from by decide]
  congr 2
  apply propext
  omega
theorem takes_eq {w : Nat} (hw : w < 7) (v : Int32) (σ : gS) : f_Isl_takes (nI w) v σ = some (bI (okv w v)) := by
  unfold f_Isl_takes okv lst mst
  simp (disch := omega) only [gupE, gltE, gllE, litE, litLE, bindE, ↓reduceIte, gsi_at, gsi_l2, gsl_at, gsl_i1, upd_at, updL_at, Nat.reduceEqDiff, gix_nI, nI_clamp, bI_0, bI_gzb, Bool.true_eq_false, Bool.false_eq_true, within_eq, inb_nI, hw, decide_true, i_lt]
  by_cases h1 : v.toInt < (tb_LEAST.getD w (nI 0)).toInt
  · have h2 : ¬ (tb_LEAST.getD w (nI 0)).toInt ≤ v.toInt := by omega
    rw [if_pos h1]
    simp only [h2, decide_false, Bool.false_and, bI_f]
  · have h2 : (tb_LEAST.getD w (nI 0)).toInt ≤ v.toInt := by omega
    rw [if_neg h1]
    by_cases h3 : (tb_MOST.getD w (nI 0)).toInt < v.toInt
    · have h4 : ¬ v.toInt ≤ (tb_MOST.getD w (nI 0)).toInt := by omega
      rw [if_pos h3]
      simp only [h4, decide_false, Bool.and_false, bI_f]
    · have h4 : v.toInt ≤ (tb_MOST.getD w (nI 0)).toInt := by omega
      rw [if_neg h3]
      simp only [h2, h4, decide_true, Bool.and_self, bI_t]
theorem mayBecome_eq {w : Nat} (hw : w < 7) (v : Int32) : f_M_mayBecome (nI w) v = some (bI (okv w v)) := by
  unfold f_M_mayBecome f_M_mayBecome_j95 f_M_mayBecome_j73
  simp (disch := omega) only [gupE, gltE, gllE, litE, litLE, bindE, ↓reduceIte, gsi_at, gsi_l2, gsl_at, gsl_i1, upd_at, updL_at, Nat.reduceEqDiff, gix_nI, nI_clamp, bI_0, bI_gzb, Bool.true_eq_false, Bool.false_eq_true, nI_eq, Mwithin0, isWeather_eq]
  have : w = 0 ∨ w = 1 ∨ w = 2 ∨ w = 3 ∨ w = 4 ∨ w = 5 ∨ w = 6 := by omega
  rcases this with rfl | rfl | rfl | rfl | rfl | rfl | rfl
  · simp [okv0]
  · simp [okv1]
  · simp [okv2]
  · simp only [Nat.reduceEqDiff, ↓reduceIte, okv3]
    by_cases e : v = -nI 1
    · subst e
      decide
    · have e2 : ¬ v = -1 := e
      simp only [e, e2, ↓reduceIte, decide_false, Bool.false_or]
      cases inb v 6 <;> simp [bI]
  · simp [okv4]
  · simp [okv5]
  · simp [okv6]
/-- the value of a number -/
def vof (K E P : Nat → Nat) (B : Nat → Int32) (F W D w u : Nat) : Int32 := if w = 0 then nI (K u) else if w = 1 then nI (E u) else if w = 2 then nI (P u) else if w = 3 then B u else if w = 4 then nI F else if w = 5 then nI W else nI D
theorem read_eq {σ : gS} {n : Nat} {K E P : Nat → Nat} {B : Nat → Int32} {F W D : Nat} (hP : Peo σ n K E P B F W D) {w u : Nat} (hk : okn n w u) : f_Isl_read (nI u) (nI w) σ = some (vof K E P B F W D w u) := by
  obtain ⟨⟨hn, h1, h2⟩, h4, h5, h6, h7⟩ := hP
  unfold f_Isl_read vof
  simp (disch := omega) only [gupE, gltE, gllE, litE, litLE, bindE, ↓reduceIte, gsi_at, gsi_l2, gsl_at, gsl_i1, upd_at, updL_at, Nat.reduceEqDiff, gix_nI, nI_clamp, bI_0, bI_gzb, Bool.true_eq_false, Bool.false_eq_true, knows_eq h1 hn, knb_of hn hk, nI_eq]
  obtain ⟨a1, a2, a3⟩ := hk
  by_cases h : w < 4
  · have hu := a2 h
    obtain ⟨-, ⟨b1, b2, b3, b4⟩, -⟩ := h4 u hu
    have hg : gix (nI u) 10 = true := gix_nI (by omega) (by omega)
    simp (disch := omega) only [hg, ↓reduceIte, nI_clamp, b1, b2, b3, b4]
    have : w = 0 ∨ w = 1 ∨ w = 2 ∨ w = 3 := by omega
    rcases this with rfl | rfl | rfl | rfl <;> rfl
  · have e0 : ¬ w = 0 := by omega
    have e1 : ¬ w = 1 := by omega
    have e2 : ¬ w = 2 := by omega
    have e3 : ¬ w = 3 := by omega
    simp only [e0, e1, e2, e3, ↓reduceIte, h5.2.1, h6.2.1, h7.2.1]
    have : w = 4 ∨ w = 5 ∨ w = 6 := by omega
    rcases this with rfl | rfl | rfl <;> rfl
theorem may_eq {σ : gS} {n : Nat} {K E P : Nat → Nat} {B : Nat → Int32} {F W D : Nat} (hP : Peo σ n K E P B F W D) {w u : Nat} (hk : okn n w u) : σ.1 60 (plc w u) = vof K E P B F W D w u := by
  obtain ⟨⟨hn, h1, h2⟩, h4, h5, h6, h7⟩ := hP
  obtain ⟨a1, a2, a3⟩ := hk
  unfold plc vof
  by_cases h : w < 4
  · have hu := a2 h
    obtain ⟨-, -, b1, b2, b3, b4⟩ := h4 u hu
    have : w = 0 ∨ w = 1 ∨ w = 2 ∨ w = 3 := by omega
    rcases this with rfl | rfl | rfl | rfl
    · simpa using b1
    · simpa using b2
    · simpa using b3
    · simpa using b4
  · have : w = 4 ∨ w = 5 ∨ w = 6 := by omega
    rcases this with rfl | rfl | rfl
    · simpa using h5.2.2
    · simpa using h6.2.2
    · simpa using h7.2.2
theorem plc_lt {n w u : Nat} (hn : n ≤ 10) (hk : okn n w u) : plc w u < 43 := by
  obtain ⟨a1, a2, a3⟩ := hk
  unfold plc
  by_cases h : w < 4
  · have hu := a2 h
    rw [if_pos h]
    omega
  · rw [if_neg h]
    omega
theorem void_eq : True := trivial
theorem ag_of (v1 v2 : Int32) : ∀ σ, R σ → ∃ x, f_T_of v1 v2 σ = some x ∧ f_M_of v1 v2 σ = some x := by
  intro σ hR
  obtain ⟨n, K, E, P, B, F, W, D, m, hP, hT, hL, hC, hLe, hPi, hW, hS, h0⟩ := hR
  obtain ⟨⟨hn, h1, h2⟩, -⟩ := id hP
  unfold f_T_of f_M_of
  simp (disch := omega) only [gupE, gltE, gllE, litE, litLE, bindE, ↓reduceIte, gsi_at, gsi_l2, gsl_at, gsl_i1, upd_at, updL_at, Nat.reduceEqDiff, gix_nI, nI_clamp, bI_0, bI_gzb, Bool.true_eq_false, Bool.false_eq_true, knows_eq h1 hn]
  cases hk : knb n v1 v2 with
  | false =>
    rw [place_f h2 hn v1 v2 hk]
    simp only [gupE, gltE, gllE, litE, litLE, bindE, ↓reduceIte, gsi_at, gsi_l2, gsl_at, gsl_i1, upd_at, updL_at, Nat.reduceEqDiff, gix_nI, nI_clamp, bI_0, bI_gzb, Bool.true_eq_false, Bool.false_eq_true, neg1_lt]
    exact ⟨_, rfl, rfl⟩
  | true =>
    obtain ⟨w, u, rfl, rfl, ho⟩ := knb_t hn hk
    rw [place_t h2 hn ho, read_eq hP ho]
    have hp := plc_lt hn ho
    simp (disch := omega) only [gupE, gltE, gllE, litE, litLE, bindE, ↓reduceIte, gsi_at, gsi_l2, gsl_at, gsl_i1, upd_at, updL_at, Nat.reduceEqDiff, gix_nI, nI_clamp, bI_0, bI_gzb, Bool.true_eq_false, Bool.false_eq_true, not_lt0, may_eq hP ho]
    exact ⟨_, rfl, rfl⟩
