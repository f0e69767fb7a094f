/-! pure: back, marry -/
theorem Peo.mk2 {σ τ : gS} {n : Nat} {K E P : Nat → Nat} {B : Nat → Int32} {F W D : Nat} (hP : Peo σ n K E P B F W D) {K' : Nat → Nat} {B' : Nat → Int32} {D' : Nat} (hK : ∀ c, c < n → K' c < 8 ∧ τ.1 2 c = nI (K' c) ∧ τ.1 60 c = nI (K' c)) (hB : ∀ c, c < n → bok (B' c) ∧ τ.1 5 c = B' c ∧ τ.1 60 (30 + c) = B' c) (hD : D' < 100 ∧ τ.1 1 9 = nI D' ∧ τ.1 60 42 = nI D')
    (g1 : τ.1 1 6 = σ.1 1 6 ∧ τ.1 1 7 = σ.1 1 7 ∧ τ.1 1 8 = σ.1 1 8 ∧ τ.1 59 6 = σ.1 59 6) (g2 : ∀ c, τ.1 3 c = σ.1 3 c ∧ τ.1 4 c = σ.1 4 c) (g3 : ∀ c, c < n → τ.1 60 (10 + c) = σ.1 60 (10 + c) ∧ τ.1 60 (20 + c) = σ.1 60 (20 + c)) (g4 : τ.1 60 40 = σ.1 60 40 ∧ τ.1 60 41 = σ.1 60 41) : Peo τ n K' E P B' F W D' := by
  obtain ⟨⟨hn, h1, h2⟩, h4, h5, h6, h7⟩ := hP
  refine ⟨⟨hn, g1.1.trans h1, g1.2.2.2.trans h2⟩, fun c hc => ?_, ⟨h5.1, g1.2.1.trans h5.2.1, g4.1.trans h5.2.2⟩, ⟨h6.1, g1.2.2.1.trans h6.2.1, g4.2.trans h6.2.2⟩, hD⟩
  obtain ⟨⟨x1, x2, x3, x4⟩, ⟨y1, y2, y3, y4⟩, z1, z2, z3, z4⟩ := h4 c hc
  obtain ⟨a1, a2, a3⟩ := hK c hc
  obtain ⟨b1, b2, b3⟩ := hB c hc
  exact ⟨⟨a1, x2, x3, b1⟩, ⟨a2, (g2 c).1.trans y2, (g2 c).2.trans y3, b2⟩, a3, (g3 c hc).1.trans z2, (g3 c hc).2.trans z3, b3⟩
theorem gcpy_ok {a b n n0 n1 : Nat} (h1 : a + n ≤ n0) (h2 : b + n ≤ n1) (h3 : n0 < 2147483648) (h4 : n1 < 2147483648) : gcpy (nI a) (nI b) (nI n) n0 n1 = true := by
  unfold gcpy
  rw [nI_clamp (show a < 2 ^ 31 by omega), nI_clamp (show b < 2 ^ 31 by omega), nI_clamp (show n < 2 ^ 31 by omega)]
  have e1 : ¬ nI a < 0 := nI_pos (by omega)
  have e2 : ¬ nI b < 0 := nI_pos (by omega)
  have e3 : ¬ nI n < 0 := nI_pos (by omega)
  simp [e1, e2, e3, h1, h2]
theorem back88 : ∀ (t i fu : Nat) (σ : gS), i + t = 5 → t < fu → ∃ τ, f_M_back_L88 fu (nI i) σ = some (τ.1 71 4, τ) ∧ (∀ j, τ.1 71 j = if i ≤ j ∧ j < 5 then σ.1 73 j else σ.1 71 j) ∧ Fr (only 71) σ τ := by
  intro t
  induction t with
  | zero =>
    intro i fu σ hi hf
    obtain ⟨f, rfl⟩ : ∃ f, fu = f + 1 := ⟨fu - 1, by omega⟩
    obtain rfl : i = 5 := by omega
    refine ⟨σ, ?_, fun j => ?_, Fr.rf _ _⟩
    · unfold f_M_back_L88
      have : nI 5 ≤ nI 5 := by decide
      simp (disch := omega) only [lit_nI, this, ↓reduceIte]
    · rw [if_neg (by omega)]
  | succ t ih =>
    intro i fu σ hi hf
    obtain ⟨f, rfl⟩ : ∃ f, fu = f + 1 := ⟨fu - 1, by omega⟩
    obtain ⟨τ, e1, e2, e3⟩ := ih (i + 1) f (gpi σ 71 i (σ.1 73 i)) (by omega) (by omega)
    refine ⟨τ, ?_, fun j => ?_, ((Fr.rf _ σ).pi rfl).tr e3⟩
    · unfold f_M_back_L88
      have : ¬ 5 ≤ i := by omega
      simp (disch := omega) only [gupE, gltE, gllE, litE, litLE, bindE, ↓reduceIte, gsi_at, gsi_l2, gsl_at, gsl_i1, upd_at, updL_at, Nat.reduceEqDiff, gix_nI, nI_clamp, bI_0, bI_gzb, Bool.true_eq_false, Bool.false_eq_true, nI_leI, this, nI_add]
      exact e1
    · rw [e2]
      simp only [gsi_at, upd_at, Nat.reduceEqDiff, ↓reduceIte]
      by_cases q : j = i
      · subst q
        rw [if_neg (by omega), if_pos rfl, if_pos (by omega)]
      · rw [if_neg q]
        by_cases q2 : i + 1 ≤ j ∧ j < 5
        · rw [if_pos q2, if_pos (by omega)]
        · rw [if_neg q2, if_neg (by omega)]
theorem back12 {z : Nat} (hz : z ≤ 10) : ∀ (t i fu : Nat) (σ : gS), i + t = z → t < fu → σ.1 59 25 = nI z → ∃ τ, f_M_back_L12 fu (nI i) σ = f_M_back_L88 gfu (nI 0) (gpi (gpi (gpi τ 60 42 (τ.1 72 42)) 59 21 (τ.1 59 26)) 59 22 (τ.1 59 27)) ∧ (∀ j, τ.1 60 j = if (i ≤ j ∧ j < z) ∨ (30 + i ≤ j ∧ j < 30 + z) then σ.1 72 j else σ.1 60 j) ∧ Fr (only 60) σ τ := by
  intro t
  induction t with
  | zero =>
    intro i fu σ hi hf h25
    obtain ⟨f, rfl⟩ : ∃ f, fu = f + 1 := ⟨fu - 1, by omega⟩
    obtain rfl : i = z := by omega
    refine ⟨σ, ?_, fun j => ?_, Fr.rf _ _⟩
    · unfold f_M_back_L12
      have : nI i ≤ nI i := Int32.le_refl _
      simp (disch := omega) only [gupE, gltE, gllE, litE, litLE, bindE, ↓reduceIte, gsi_at, gsi_l2, gsl_at, gsl_i1, upd_at, updL_at, Nat.reduceEqDiff, gix_nI, nI_clamp, bI_0, bI_gzb, Bool.true_eq_false, Bool.false_eq_true, h25, this]
    · rw [if_neg (by omega)]
  | succ t ih =>
    intro i fu σ hi hf h25
    obtain ⟨f, rfl⟩ : ∃ f, fu = f + 1 := ⟨fu - 1, by omega⟩
    obtain ⟨τ, e1, e2, e3⟩ := ih (i + 1) f (gpi (gpi σ 60 i (σ.1 72 i)) 60 (30 + i) (σ.1 72 (30 + i))) (by omega) (by omega) (by simp only [gsi_at, upd_at, Nat.reduceEqDiff, ↓reduceIte]; exact h25)
    refine ⟨τ, ?_, fun j => ?_, (((Fr.rf _ σ).pi rfl).pi rfl).tr e3⟩
    · unfold f_M_back_L12
      have : ¬ z ≤ i := by omega
      simp (disch := omega) only [gupE, gltE, gllE, litE, litLE, bindE, ↓reduceIte, gsi_at, gsi_l2, gsl_at, gsl_i1, upd_at, updL_at, Nat.reduceEqDiff, gix_nI, nI_clamp, bI_0, bI_gzb, Bool.true_eq_false, Bool.false_eq_true, h25, nI_leI, this, nI_add]
      exact e1
    · rw [e2]
      simp only [gsi_at, upd_at, Nat.reduceEqDiff, ↓reduceIte]
      by_cases q : j = 30 + i
      · subst q
        rw [if_neg (by omega), if_pos rfl, if_pos (by omega)]
      · rw [if_neg q]
        by_cases q1 : j = i
        · subst q1
          rw [if_neg (by omega), if_pos rfl, if_pos (by omega)]
        · rw [if_neg q1]
          by_cases q2 : (i + 1 ≤ j ∧ j < z) ∨ (30 + (i + 1) ≤ j ∧ j < 30 + z)
          · rw [if_pos q2, if_pos (by omega)]
          · rw [if_neg q2, if_neg (by omega)]
theorem ag_back : Agr f_T_back f_M_back := by
  intro σ hR
  have hR0 := hR
  obtain ⟨n, K, E, P, B, F, W, D, m, hP, hT, hL, hC, hLe, hPi, hW, hS, h0⟩ := hR
  obtain ⟨⟨hn, h1, h2⟩, p4, p5, p6, hD, d1, d2⟩ := id hP
  rcases id hPi with ⟨i1, i2⟩ | ⟨⟨i1, i2⟩, z, D', ⟨hz, j1, j2⟩, ⟨hD', j3, j4⟩, j5, j6, ⟨a, la, j7, j8⟩, ⟨b, lb, j9, j10⟩⟩
  · refine ⟨-nI 5, σ, σ, ?_, ?_, hR0⟩
    · unfold f_T_back
      simp only [gupE, gltE, gllE, litE, litLE, bindE, ↓reduceIte, gsi_at, gsi_l2, gsl_at, gsl_i1, upd_at, updL_at, Nat.reduceEqDiff, gix_nI, nI_clamp, bI_0, bI_gzb, Bool.true_eq_false, Bool.false_eq_true, i1]
    · unfold f_M_back
      generalize f_M_back_L12 gfu = G
      simp only [gupE, gltE, gllE, litE, litLE, bindE, ↓reduceIte, gsi_at, gsi_l2, gsl_at, gsl_i1, upd_at, updL_at, Nat.reduceEqDiff, gix_nI, nI_clamp, bI_0, bI_gzb, Bool.true_eq_false, Bool.false_eq_true, i2]
  · have e0 : ¬ nI 1 = nI 0 := by decide
    have q1 : ∀ k, inT [1, 5] 2 k = true := fun _ => rfl
    have q2 : ∀ k, inT [1, 5] 5 k = true := fun _ => rfl
    have q3 : ∀ k, inT [1, 5] 37 k = true := fun _ => rfl
    obtain ⟨ρ, hρ, r1, r2, r3, r4, r5, r6, rE, rN, fρ⟩ : ∃ ρ, f_T_back σ = some (σ.1 42 4, ρ) ∧ (∀ i, ρ.1 2 i = if i < z then σ.1 39 i else σ.1 2 i) ∧ (∀ i, ρ.1 5 i = if i < z then σ.1 40 i else σ.1 5 i) ∧ (∀ i, i < 5 → ρ.1 37 i = σ.1 42 i) ∧ ρ.1 36 1 = nI a ∧ ρ.1 36 2 = nI b ∧ ρ.1 1 9 = nI D' ∧ (∀ c k, c ≠ 2 → c ≠ 5 → c ≠ 37 → c ≠ 36 → ¬ (c = 1 ∧ k = 9) → ρ.1 c k = σ.1 c k) ∧ True ∧ Fr (inT [1, 5]) σ ρ := by
      have hg : gcpy (nI 0) (nI 0) (nI z) 10 10 = true := gcpy_ok (by omega) (by omega) (by omega) (by omega)
      have c0 : (nI 0).toNatClampNeg = 0 := by decide
      refine ⟨gpi (gpi (gpi (gsi (gsi (gsi σ 2 (va_cpy (σ.1 39) (σ.1 2) 0 0 z)) 5 (va_cpy (σ.1 40) (σ.1 5) 0 0 z)) 37 (va_cpy (σ.1 42) (σ.1 37) 0 0 5)) 36 1 (nI a)) 36 2 (nI b)) 1 9 (nI D'), ?_, fun i => ?_, fun i => ?_, fun i hi => ?_, ?_, ?_, ?_, fun c k x1 x2 x3 x4 x5 => ?_, trivial, ((((((Fr.rf _ σ).si q1).si q2).si q3).pi rfl).pi rfl).pi rfl⟩
      · unfold f_T_back f_Pi_layBack
        simp (disch := omega) only [gupE, gltE, gllE, litE, litLE, bindE, ↓reduceIte, gsi_at, gsi_l2, gsl_at, gsl_i1, upd_at, updL_at, Nat.reduceEqDiff, gix_nI, nI_clamp, bI_0, bI_gzb, Bool.true_eq_false, Bool.false_eq_true, i1, e0, j1, hg, c0, copy_eq, Nat.reduceAdd, Nat.reduceSub]
        rw [j7, j9, j3]
        simp only [cpy0]
        rfl
      · simp only [gsi_at, upd_at, Nat.reduceEqDiff, ↓reduceIte, cpy0]
      · simp only [gsi_at, upd_at, Nat.reduceEqDiff, ↓reduceIte, cpy0]
      · simp only [gsi_at, upd_at, Nat.reduceEqDiff, ↓reduceIte, cpy0, hi]
      · simp only [gsi_at, upd_at, Nat.reduceEqDiff, ↓reduceIte]
      · simp only [gsi_at, upd_at, Nat.reduceEqDiff, ↓reduceIte]
      · simp only [gsi_at, upd_at, Nat.reduceEqDiff, ↓reduceIte]
      · rw [gpi_at, if_neg x5, gpi_at, if_neg (fun q => x4 q.1), gpi_at, if_neg (fun q => x4 q.1), gsi_at, if_neg x3, gsi_at, if_neg x2, gsi_at, if_neg x1]
    have u : ∀ c k, 59 ≤ c → ρ.1 c k = σ.1 c k := fun c k hc => rE c k (by omega) (by omega) (by omega) (by omega) (by omega)
    obtain ⟨τ, e1, e2, e3⟩ := back12 (z := z) (by omega) z 0 gfu ρ (by omega) (by show z < 2000; omega) ((u 59 25 (by decide)).trans j2)
    obtain ⟨s, hs⟩ : ∃ s, s = gpi (gpi (gpi τ 60 42 (nI D')) 59 21 (nI a)) 59 22 (nI b) := ⟨_, rfl⟩
    obtain ⟨υ, g1, g2, g3⟩ := back88 5 0 gfu s (by decide) (by decide)
    have t72 : τ.1 72 42 = nI D' := by rw [only_ne e3 (by decide), u 72 42 (by decide), j4]
    have t26 : τ.1 59 26 = nI a := by rw [only_ne e3 (by decide), u 59 26 (by decide), j8]
    have t27 : τ.1 59 27 = nI b := by rw [only_ne e3 (by decide), u 59 27 (by decide), j10]
    have v60 : ∀ j, j ≠ 42 → υ.1 60 j = if j < z ∨ (30 ≤ j ∧ j < 30 + z) then σ.1 72 j else σ.1 60 j := fun j hj => by
      rw [only_ne g3 (by decide), hs, gpi_at, if_neg (by omega), gpi_at, if_neg (by omega), gpi_at, if_neg (by omega), e2, u 72 j (by decide), u 60 j (by decide)]
      by_cases q : j < z ∨ (30 ≤ j ∧ j < 30 + z)
      · rw [if_pos q, if_pos (by omega)]
      · rw [if_neg q, if_neg (by omega)]
    have v42 : υ.1 60 42 = nI D' := by
      rw [only_ne g3 (by decide), hs, gpi_at, if_neg (by omega), gpi_at, if_neg (by omega), gpi_at, if_pos ⟨rfl, rfl⟩]
    have v71 : ∀ j, j < 5 → υ.1 71 j = σ.1 73 j := fun j hj => by
      rw [g2, if_pos ⟨Nat.zero_le _, hj⟩, hs, gpi_at, if_neg (by omega), gpi_at, if_neg (by omega), gpi_at, if_neg (by omega), only_ne e3 (by decide), u 73 j (by decide)]
    have vlo : ∀ c k, c < 59 → υ.1 c k = ρ.1 c k := fun c k hc => by
      rw [only_ne g3 (by omega), hs, gpi_at, if_neg (by omega), gpi_at, if_neg (by omega), gpi_at, if_neg (by omega), only_ne e3 (by omega)]
    have v59 : ∀ k, k ≠ 21 → k ≠ 22 → υ.1 59 k = σ.1 59 k := fun k x1 x2 => by
      rw [only_ne g3 (by decide), hs, gpi_at, if_neg (by omega), gpi_at, if_neg (by omega), gpi_at, if_neg (by omega), only_ne e3 (by decide), u 59 k (by decide)]
    have v21 : υ.1 59 21 = nI a ∧ υ.1 59 22 = nI b := by
      rw [only_ne g3 (by decide), only_ne g3 (by decide), hs]
      simp only [gsi_at, upd_at, Nat.reduceEqDiff, ↓reduceIte, and_self]
    have f1 : Fr (inT [1, 5]) σ υ := by
      have fs : Fr (inT [1, 5]) τ s := by
        rw [hs]
        exact (((Fr.rf _ τ).pi rfl).pi rfl).pi rfl
      refine ((fρ.tr (e3.sub fun c k q => ?_)).tr fs).tr (g3.sub fun c k q => ?_)
      · cases e : only 60 c k with
        | false => rfl
        | true =>
          simp only [only, beq_iff_eq] at e
          subst e
          exact absurd q (by rw [show inT [1, 5] 60 k = true from rfl]; decide)
      · cases e : only 71 c k with
        | false => rfl
        | true =>
          simp only [only, beq_iff_eq] at e
          subst e
          exact absurd q (by rw [show inT [1, 5] 71 k = true from rfl]; decide)
    have hPn : Peo υ n (fun c => if c < z then (σ.1 39 c).toNatClampNeg else K c) E P (fun c => if c < z then σ.1 40 c else B c) F W D' := by
      refine hP.mk2 (fun c hc => ?_) (fun c hc => ?_) ⟨hD', ?_, v42⟩ ⟨?_, ?_, ?_, v59 6 (by decide) (by decide)⟩ (fun c => ⟨?_, ?_⟩) (fun c hc => ⟨?_, ?_⟩) ⟨?_, ?_⟩
      · rw [vlo 2 c (by decide), r1, v60 c (by omega)]
        by_cases q : c < z
        · obtain ⟨⟨k, k1, k2, k3⟩, -, -⟩ := j5 c q
          simp only [q, ↓reduceIte, true_or]
          rw [k2, k3, nI_clamp (by omega)]
          exact ⟨k1, rfl, rfl⟩
        · have q' : ¬ (30 ≤ c ∧ c < 30 + z) := by omega
          simp only [q, q', false_or, ↓reduceIte]
          obtain ⟨⟨x1, x2, x3, x4⟩, ⟨y1, y2, y3, y4⟩, z1, z2, z3, z4⟩ := p4 c hc
          exact ⟨x1, y1, z1⟩
      · rw [vlo 5 c (by decide), r2, v60 (30 + c) (by omega)]
        by_cases q : c < z
        · obtain ⟨-, k1, k2⟩ := j5 c q
          have q' : 30 + c < z ∨ (30 ≤ 30 + c ∧ 30 + c < 30 + z) := by omega
          simp only [q, q', ↓reduceIte]
          exact ⟨k1, trivial, k2⟩
        · have q' : ¬ (30 + c < z ∨ (30 ≤ 30 + c ∧ 30 + c < 30 + z)) := by omega
          simp only [q, q', ↓reduceIte]
          obtain ⟨⟨x1, x2, x3, x4⟩, ⟨y1, y2, y3, y4⟩, z1, z2, z3, z4⟩ := p4 c hc
          exact ⟨x4, y4, z4⟩
      · rw [vlo 1 9 (by decide), r6]
      · rw [vlo 1 6 (by decide), rE 1 6 (by decide) (by decide) (by decide) (by decide) (by decide)]
      · rw [vlo 1 7 (by decide), rE 1 7 (by decide) (by decide) (by decide) (by decide) (by decide)]
      · rw [vlo 1 8 (by decide), rE 1 8 (by decide) (by decide) (by decide) (by decide) (by decide)]
      · rw [vlo 3 c (by decide), rE 3 c (by decide) (by decide) (by decide) (by decide) (by omega)]
      · rw [vlo 4 c (by decide), rE 4 c (by decide) (by decide) (by decide) (by decide) (by omega)]
      · rw [v60 (10 + c) (by omega), if_neg (by omega)]
      · rw [v60 (20 + c) (by omega), if_neg (by omega)]
      · rw [v60 40 (by decide), if_neg (by omega)]
      · rw [v60 41 (by decide), if_neg (by omega)]
    refine ⟨σ.1 42 4, ρ, υ, hρ, ?_, n, _, E, P, _, F, W, D', m, hPn, kTap f1 rfl hT, kLw f1 rfl hL, kChg f1 rfl hC, ⟨fun i hi => ?_, ⟨a, Nat.lt_of_lt_of_le la (Nat.pow_le_pow_right (by decide) hz), ?_, v21.1⟩, ⟨b, lb, ?_, v21.2⟩⟩, kPic f1 rfl hPi, kWrd f1 rfl hW, kShv f1 rfl hS, k0 f1 rfl h0⟩
    · have e9 : f_M_back ρ = f_M_back_L12 gfu (nI 0) ρ := by
        unfold f_M_back
        generalize f_M_back_L12 gfu = G
        simp only [gupE, gltE, gllE, litE, litLE, bindE, ↓reduceIte, gsi_at, gsi_l2, gsl_at, gsl_i1, upd_at, updL_at, Nat.reduceEqDiff, gix_nI, nI_clamp, bI_0, bI_gzb, Bool.true_eq_false, Bool.false_eq_true, u 59 24 (by decide), i2, e0]
      rw [e9, e1, t72, t26, t27, ← hs, g1, v71 4 (by decide), j6 4 (by decide)]
    · rw [vlo 37 i (by decide), r3 i hi, v71 i hi, j6 i hi]
    · rw [vlo 36 1 (by decide), r4]
    · rw [vlo 36 2 (by decide), r5]
