/-! pure: ends, paid, image, back -/
theorem gmin_nI {a b : Nat} (ha : a < 2147483648) (hb : b < 2147483648) : gmin (nI a) (nI b) = nI (min a b) := by
  unfold gmin
  by_cases h : b < a
  · rw [if_pos ((nI_ltI (by omega) (by omega)).mpr h), Nat.min_eq_right (by omega)]
  · rw [if_neg (fun q => h ((nI_ltI (by omega) (by omega)).mp q)), Nat.min_eq_left (by omega)]
theorem gmax_nI {a b : Nat} (ha : a < 2147483648) (hb : b < 2147483648) : gmax (nI a) (nI b) = nI (max a b) := by
  unfold gmax
  by_cases h : a < b
  · rw [if_pos ((nI_ltI (by omega) (by omega)).mpr h), Nat.max_eq_right (by omega)]
  · rw [if_neg (fun q => h ((nI_ltI (by omega) (by omega)).mp q)), Nat.max_eq_left (by omega)]
theorem dayOf_eq {a : Nat} (ha : a < 2147483648) : f_M_dayOf (nI a) = some (nI (min 99 a)) := by
  unfold f_M_dayOf
  simp (disch := omega) only [gupE, gltE, gllE, litE, litLE, bindE, ↓reduceIte, gsi_at, gsi_l2, gsl_at, gsl_i1, upd_at, updL_at, Nat.reduceEqDiff, gix_nI, nI_clamp, bI_0, bI_gzb, Bool.true_eq_false, Bool.false_eq_true, nI_leI]
  by_cases h : a ≤ 99
  · rw [if_pos h, Nat.min_eq_right h]
  · rw [if_neg h, Nat.min_eq_left (by omega)]
theorem put_T {T : List Nat} (hT : T.contains 1 = false) {σ τ : gS} {n : Nat} {N : Nat → Nat → Int32} (h : PeoN σ n N) {w u : Nat} {v : Int32} (hk : okn n w u) (hv : okv w v = true) (hF : Fr (inT T) (gpi σ (cc w u).1 (cc w u).2 v) τ) : PeoN (gpi τ 60 (plc w u) v) n (setN N w u v) := by
  have hp := plc_lt h.1.1 hk
  have g1 : ∀ c k, comp c k = 1 → inT T c k = false := fun c k q => inT_no hT q
  refine h.set hk hv ?_ ?_ (fun w' u' hk' => ?_) (fun p hp => ?_)
  · rw [gpi_at, if_neg (by omega), hF.1 1 6 (g1 _ _ rfl), gpi_at, if_neg]
    intro q
    exact cc_ne hk ⟨q.1.symm, q.2.symm⟩
  · rw [gpi_at, if_neg (by omega), hF.1 59 6 (g1 _ _ rfl), gpi_at, if_neg]
    have := (cc_lt w u).1
    omega
  · have h1 := cc_lt w' u'
    rw [gpi_at, if_neg (by omega), hF.1 _ _ (g1 _ _ (h1.2 hk'.1)), gpi_at]
  · rw [gpi_at]
    by_cases e : p = plc w u
    · rw [if_pos ⟨rfl, e⟩, if_pos e]
    · rw [if_neg (fun q => e q.2), if_neg e, hF.1 60 p (g1 _ _ rfl), gpi_at, if_neg]
      have := (cc_lt w u).1
      omega
theorem fr15 {σ τ : gS} {T : List Nat} (h : Fr (inT T) σ τ) (hT : ∀ i, i ∈ T → i = 1 ∨ i = 5) : Fr (inT [1, 5]) σ τ := h.more (by
  intro i hi
  cases e : T.contains i with
  | false => rfl
  | true =>
    have := hT i (by simpa using e)
    simp at hi
    omega)
theorem ag_ends : Agr f_T_ends f_M_ends := by
  intro σ hR
  obtain ⟨n, K, E, P, B, F, W, D, m, hP, hT, hL, hC, hLe, hPi, hW, hS, h0⟩ := hR
  obtain ⟨⟨hn, h1, h2⟩, -, -, -, hD, d1, d2⟩ := id hP
  obtain ⟨l1, l2, l3⟩ := id hLe
  unfold f_T_ends f_M_ends f_T_dayBehind f_Le_endDay
  have o : okn n 6 0 := okn_g (by decide) (by decide)
  have ov : okv 6 (nI (min 99 (D + 1))) = true := by
    rw [okv6, inb_nI (by omega)]
    simp
    omega
  obtain ⟨ρ, hρ⟩ : ∃ ρ, ρ = gpi (gpi (gpi (gpi σ 1 9 (nI (min 99 (D + 1)))) 36 1 (nI 0)) 36 2 (nI 0)) 37 4 (σ.1 37 4 + nI 1) := ⟨_, rfl⟩
  have fρ : Fr (inT [5]) (gpi σ (cc 6 0).1 (cc 6 0).2 (nI (min 99 (D + 1)))) ρ := by
    rw [hρ]
    exact (((Fr.rf _ _).pi rfl).pi rfl).pi rfl
  have hPν := put_T (by decide) hP.N o ov fρ
  obtain ⟨K', E', P', B', F', W', D', hP'⟩ := hPν.P
  obtain ⟨υ, hυ⟩ : ∃ υ, υ = gpi (gpi (gpi (gpi ρ 60 42 (nI (min 99 (D + 1)))) 59 21 (nI 0)) 59 22 (nI 0)) 71 4 (σ.1 71 4 + nI 1) := ⟨_, rfl⟩
  have fυ : Fr (inT [5]) (gpi ρ 60 (plc 6 0) (nI (min 99 (D + 1)))) υ := by
    rw [hυ]
    exact (((Fr.rf _ _).pi rfl).pi rfl).pi rfl
  have f1 : Fr (inT [1, 5]) σ υ := by
    rw [hυ, hρ]
    exact ((((((((Fr.rf _ σ).pi rfl).pi rfl).pi rfl).pi rfl).pi rfl).pi rfl).pi rfl).pi rfl
  refine ⟨nI (min 99 (D + 1)), ρ, υ, ?_, ?_, n, K', E', P', B', F', W', D', m, kPeo fυ rfl hP', kTap f1 rfl hT, kLw f1 rfl hL, kChg f1 rfl hC, ⟨fun i hi => ?_, ⟨0, Nat.two_pow_pos n, ?_, ?_⟩, ⟨0, by decide, ?_, ?_⟩⟩, kPic f1 rfl hPi, kWrd f1 rfl hW, kShv f1 rfl hS, k0 f1 rfl h0⟩
  · rw [hρ]
    simp (disch := omega) only [gupE, gltE, gllE, litE, litLE, bindE, ↓reduceIte, gsi_at, gsi_l2, gsl_at, gsl_i1, upd_at, updL_at, Nat.reduceEqDiff, gix_nI, nI_clamp, bI_0, bI_gzb, Bool.true_eq_false, Bool.false_eq_true, d1, nI_add, gmin_nI]
  · have r1 : ρ.1 60 42 = nI D := by rw [hρ]; simp only [gsi_at, upd_at, Nat.reduceEqDiff, ↓reduceIte, d2]
    have r2 : ρ.1 71 4 = σ.1 71 4 := by rw [hρ]; simp only [gsi_at, upd_at, Nat.reduceEqDiff, ↓reduceIte]
    rw [hυ]
    simp (disch := omega) only [gupE, gltE, gllE, litE, litLE, bindE, ↓reduceIte, gsi_at, gsi_l2, gsl_at, gsl_i1, upd_at, updL_at, Nat.reduceEqDiff, gix_nI, nI_clamp, bI_0, bI_gzb, Bool.true_eq_false, Bool.false_eq_true, r1, r2, nI_add, dayOf_eq]
  · rw [hυ, hρ]
    simp only [gsi_at, upd_at, Nat.reduceEqDiff, ↓reduceIte]
    by_cases e : i = 4
    · simp only [e, ↓reduceIte, l1 4 (by decide)]
    · simp only [e, ↓reduceIte, l1 i hi]
  · rw [hυ, hρ]
    simp only [gsi_at, upd_at, Nat.reduceEqDiff, ↓reduceIte]
  · rw [hυ, hρ]
    simp only [gsi_at, upd_at, Nat.reduceEqDiff, ↓reduceIte]
  · rw [hυ, hρ]
    simp only [gsi_at, upd_at, Nat.reduceEqDiff, ↓reduceIte]
  · rw [hυ, hρ]
    simp only [gsi_at, upd_at, Nat.reduceEqDiff, ↓reduceIte]
theorem ag_paid (v1 v2 : Int32) : Agr (f_T_paid v1 v2) (f_M_paid v1 v2) := by
  intro σ hR
  have hR0 := hR
  obtain ⟨n, K, E, P, B, F, W, D, m, hP, hT, hL, hC, hLe, hPi, hW, hS, h0⟩ := hR
  obtain ⟨⟨hn, h1, h2⟩, -⟩ := id hP
  obtain ⟨l1, l2, l3⟩ := id hLe
  unfold f_T_paid f_M_paid
  simp (disch := omega) only [gupE, gltE, gllE, litE, litLE, bindE, ↓reduceIte, gsi_at, gsi_l2, gsl_at, gsl_i1, upd_at, updL_at, Nat.reduceEqDiff, gix_nI, nI_clamp, bI_0, bI_gzb, Bool.true_eq_false, Bool.false_eq_true, h1, within_eq]
  cases hv : inb v1 n with
  | false =>
    refine ⟨-nI 1, σ, σ, rfl, ?_, hR0⟩
    simp (disch := omega) only [gupE, gltE, gllE, litE, litLE, bindE, ↓reduceIte, gsi_at, gsi_l2, gsl_at, gsl_i1, upd_at, updL_at, Nat.reduceEqDiff, gix_nI, nI_clamp, bI_0, bI_gzb, Bool.true_eq_false, Bool.false_eq_true, isOne_eq h2 hn, hv]
  | true =>
    obtain ⟨u, hu, rfl⟩ := inb_of hv (by omega)
    simp only [↓reduceIte, Bool.true_eq_false]
    cases hw : inb v2 7 with
    | false =>
      refine ⟨-nI 1, σ, σ, rfl, ?_, hR0⟩
      simp (disch := omega) only [gupE, gltE, gllE, litE, litLE, bindE, ↓reduceIte, gsi_at, gsi_l2, gsl_at, gsl_i1, upd_at, updL_at, Nat.reduceEqDiff, gix_nI, nI_clamp, bI_0, bI_gzb, Bool.true_eq_false, Bool.false_eq_true, isOne_eq h2 hn, hv, Mwithin0, hw]
    | true =>
      obtain ⟨w, hw7, rfl⟩ := inb_of hw (by omega)
      simp only [↓reduceIte, Bool.true_eq_false]
      have o : okn n 3 u := okn_c (by decide) hu
      have hg : gix (nI u) 10 = true := gix_nI (by omega) (by omega)
      have hpr := ((hP.2.1 u hu).2.1).2.2.1
      have hprM := ((hP.2.1 u hu).2.2).2.2.1
      by_cases h6 : w = 6
      · subst h6
        have ov : okv 3 (-1) = true := okv_bok.mpr (Or.inl rfl)
        obtain ⟨ρ, hρ⟩ : ∃ ρ, ρ = gpi σ 5 u (-1) := ⟨_, rfl⟩
        have hPν := put_T (T := []) rfl hP.N o ov (τ := ρ) (by rw [hρ]; exact Fr.rf _ _)
        obtain ⟨K', E', P', B', F', W', D', hP'⟩ := hPν.P
        obtain ⟨υ, hυ⟩ : ∃ υ, υ = gpi (gpi ρ 60 (30 + u) (-1)) 71 3 (σ.1 71 3 + nI 0) := ⟨_, rfl⟩
        have fυ : Fr (inT [5]) (gpi ρ 60 (plc 3 u) (-1)) υ := by
          rw [hυ]
          exact (Fr.rf _ _).pi rfl
        have f1 : Fr (inT [1, 5]) σ υ := by
          rw [hυ, hρ]
          exact (((Fr.rf _ σ).pi rfl).pi rfl).pi rfl
        refine ⟨nI 0, ρ, υ, ?_, ?_, n, K', E', P', B', F', W', D', m, kPeo fυ rfl hP', kTap f1 rfl hT, kLw f1 rfl hL, kChg f1 rfl hC, ⟨fun i hi => ?_, ?_, ?_⟩, kPic f1 rfl hPi, kWrd f1 rfl hW, kShv f1 rfl hS, k0 f1 rfl h0⟩
        · rw [hρ]
          simp (disch := omega) only [gupE, gltE, gllE, litE, litLE, bindE, ↓reduceIte, gsi_at, gsi_l2, gsl_at, gsl_i1, upd_at, updL_at, Nat.reduceEqDiff, gix_nI, nI_clamp, bI_0, bI_gzb, Bool.true_eq_false, Bool.false_eq_true, hg]
          try rfl
        · have r1 : ρ.1 59 6 = nI n := by rw [hρ, gpi_at, if_neg (by omega), h2]
          have r2 : ρ.1 71 3 = σ.1 71 3 := by rw [hρ, gpi_at, if_neg (by omega)]
          unfold f_M_paid_j42 f_M_paid_j62
          rw [hυ]
          simp (disch := omega) only [gupE, gltE, gllE, litE, litLE, bindE, ↓reduceIte, gsi_at, gsi_l2, gsl_at, gsl_i1, upd_at, updL_at, Nat.reduceEqDiff, gix_nI, nI_clamp, bI_0, bI_gzb, Bool.true_eq_false, Bool.false_eq_true, isOne_eq r1 hn, hv, Mwithin0, hw, nI_add, r2]
          try rfl
        · rw [hυ, hρ]
          simp only [gsi_at, upd_at, Nat.reduceEqDiff, ↓reduceIte]
          by_cases e : i = 3
          · simp only [e, ↓reduceIte, l1 3 (by decide)]
            exact (Int32.add_zero _).symm
          · simp only [e, ↓reduceIte, l1 i hi]
        · rw [hυ, hρ]
          simp only [gsi_at, upd_at, Nat.reduceEqDiff, ↓reduceIte]
          exact l2
        · rw [hυ, hρ]
          simp only [gsi_at, upd_at, Nat.reduceEqDiff, ↓reduceIte]
          exact l3
      · have ov : okv 3 (nI w) = true := okv_bok.mpr (Or.inr ⟨w, by omega, rfl⟩)
        have q6 : ¬ nI w = nI 6 := by rw [nI_eq (by omega) (by omega)]; exact h6
        obtain ⟨ρ, hρ⟩ : ∃ ρ, ρ = gpi (gpi σ 5 u (nI w)) 37 3 (σ.1 37 3 + nI (P u)) := ⟨_, rfl⟩
        have hPν := put_T (T := [5]) rfl hP.N o ov (τ := ρ) (by rw [hρ]; exact (Fr.rf _ _).pi rfl)
        obtain ⟨K', E', P', B', F', W', D', hP'⟩ := hPν.P
        obtain ⟨υ, hυ⟩ : ∃ υ, υ = gpi (gpi ρ 60 (30 + u) (nI w)) 71 3 (σ.1 71 3 + nI (P u)) := ⟨_, rfl⟩
        have fυ : Fr (inT [5]) (gpi ρ 60 (plc 3 u) (nI w)) υ := by
          rw [hυ]
          exact (Fr.rf _ _).pi rfl
        have f1 : Fr (inT [1, 5]) σ υ := by
          rw [hυ, hρ]
          exact ((((Fr.rf _ σ).pi rfl).pi rfl).pi rfl).pi rfl
        refine ⟨nI (P u), ρ, υ, ?_, ?_, n, K', E', P', B', F', W', D', m, kPeo fυ rfl hP', kTap f1 rfl hT, kLw f1 rfl hL, kChg f1 rfl hC, ⟨fun i hi => ?_, ?_, ?_⟩, kPic f1 rfl hPi, kWrd f1 rfl hW, kShv f1 rfl hS, k0 f1 rfl h0⟩
        · unfold f_Le_add
          rw [hρ]
          have w3 : inb (nI 3) 5 = true := by decide
          simp (disch := omega) only [gupE, gltE, gllE, litE, litLE, bindE, ↓reduceIte, gsi_at, gsi_l2, gsl_at, gsl_i1, upd_at, updL_at, Nat.reduceEqDiff, gix_nI, nI_clamp, bI_0, bI_gzb, Bool.true_eq_false, Bool.false_eq_true, hg, q6, within_eq, w3, hpr, Nat.reduceAdd]
        · have r1 : ρ.1 59 6 = nI n := by rw [hρ, gpi_at, if_neg (by omega), gpi_at, if_neg (by omega), h2]
          have r2 : ρ.1 71 3 = σ.1 71 3 := by rw [hρ, gpi_at, if_neg (by omega), gpi_at, if_neg (by omega)]
          have r3 : ρ.1 60 (20 + u) = nI (P u) := by rw [hρ, gpi_at, if_neg (by omega), gpi_at, if_neg (by omega)]; exact hprM
          have r4 : ¬ 20 + u = 30 + u := by omega
          unfold f_M_paid_j42 f_M_paid_j62
          rw [hυ]
          simp (disch := omega) only [gupE, gltE, gllE, litE, litLE, bindE, ↓reduceIte, gsi_at, gsi_l2, gsl_at, gsl_i1, upd_at, updL_at, Nat.reduceEqDiff, gix_nI, nI_clamp, bI_0, bI_gzb, Bool.true_eq_false, Bool.false_eq_true, isOne_eq r1 hn, hv, Mwithin0, hw, nI_add, r2, r3, r4, q6]
        · rw [hυ, hρ]
          simp only [gsi_at, upd_at, Nat.reduceEqDiff, ↓reduceIte]
          by_cases e : i = 3
          · simp only [e, ↓reduceIte, l1 3 (by decide)]
          · simp only [e, ↓reduceIte, l1 i hi]
        · rw [hυ, hρ]
          simp only [gsi_at, upd_at, Nat.reduceEqDiff, ↓reduceIte]
          exact l2
        · rw [hυ, hρ]
          simp only [gsi_at, upd_at, Nat.reduceEqDiff, ↓reduceIte]
          exact l3
/-- the reference's loops that copy -/
def only (x c _k : Nat) : Bool := c == x
theorem only_ne {σ τ : gS} {x : Nat} (h : Fr (only x) σ τ) {c : Nat} (hc : c ≠ x) (k : Nat) : τ.1 c k = σ.1 c k := h.1 c k (by simp [only, hc])
theorem image31 : ∀ (t i fu : Nat) (σ : gS), i + t = 43 → t < fu → ∃ τ, f_M_image_L31 fu (nI i) σ = f_M_image_L57 gfu (nI 0) τ ∧ (∀ j, τ.1 72 j = if i ≤ j ∧ j < 43 then σ.1 60 j else σ.1 72 j) ∧ Fr (only 72) σ τ := by
  intro t
  induction t with
  | zero =>
    intro i fu σ hi hf
    obtain ⟨f, rfl⟩ : ∃ f, fu = f + 1 := ⟨fu - 1, by omega⟩
    obtain rfl : i = 43 := by omega
    refine ⟨σ, ?_, fun j => ?_, Fr.rf _ _⟩
    · unfold f_M_image_L31
      have : nI 42 < nI 43 := by decide
      simp (disch := omega) only [lit_nI, this, ↓reduceIte]
    · rw [if_neg (by omega)]
  | succ t ih =>
    intro i fu σ hi hf
    obtain ⟨f, rfl⟩ : ∃ f, fu = f + 1 := ⟨fu - 1, by omega⟩
    obtain ⟨τ, e1, e2, e3⟩ := ih (i + 1) f (gpi σ 72 i (σ.1 60 i)) (by omega) (by omega)
    refine ⟨τ, ?_, fun j => ?_, ((Fr.rf _ σ).pi rfl).tr e3⟩
    · unfold f_M_image_L31
      have : ¬ 42 < i := by omega
      simp (disch := omega) only [gupE, gltE, gllE, litE, litLE, bindE, ↓reduceIte, gsi_at, gsi_l2, gsl_at, gsl_i1, upd_at, updL_at, Nat.reduceEqDiff, gix_nI, nI_clamp, bI_0, bI_gzb, Bool.true_eq_false, Bool.false_eq_true, nI_ltI, this, nI_add]
      exact e1
    · rw [e2]
      simp only [gsi_at, upd_at, Nat.reduceEqDiff, ↓reduceIte]
      by_cases q : j = i
      · subst q
        rw [if_neg (by omega), if_pos rfl, if_pos (by omega)]
      · rw [if_neg q]
        by_cases q2 : i + 1 ≤ j ∧ j < 43
        · rw [if_pos q2, if_pos (by omega)]
        · rw [if_neg q2, if_neg (by omega)]
theorem image57 : ∀ (t i fu : Nat) (σ : gS), i + t = 5 → t < fu → ∃ τ, f_M_image_L57 fu (nI i) σ = some (τ.1 71 4, τ) ∧ (∀ j, τ.1 73 j = if i ≤ j ∧ j < 5 then σ.1 71 j else σ.1 73 j) ∧ Fr (only 73) σ τ := by
  intro t
  induction t with
  | zero =>
    intro i fu σ hi hf
    obtain ⟨f, rfl⟩ : ∃ f, fu = f + 1 := ⟨fu - 1, by omega⟩
    obtain rfl : i = 5 := by omega
    refine ⟨σ, ?_, fun j => ?_, Fr.rf _ _⟩
    · unfold f_M_image_L57
      have : nI 5 ≤ nI 5 := by decide
      simp (disch := omega) only [lit_nI, this, ↓reduceIte]
    · rw [if_neg (by omega)]
  | succ t ih =>
    intro i fu σ hi hf
    obtain ⟨f, rfl⟩ : ∃ f, fu = f + 1 := ⟨fu - 1, by omega⟩
    obtain ⟨τ, e1, e2, e3⟩ := ih (i + 1) f (gpi σ 73 i (σ.1 71 i)) (by omega) (by omega)
    refine ⟨τ, ?_, fun j => ?_, ((Fr.rf _ σ).pi rfl).tr e3⟩
    · unfold f_M_image_L57
      have : ¬ 5 ≤ i := by omega
      simp (disch := omega) only [gupE, gltE, gllE, litE, litLE, bindE, ↓reduceIte, gsi_at, gsi_l2, gsl_at, gsl_i1, upd_at, updL_at, Nat.reduceEqDiff, gix_nI, nI_clamp, bI_0, bI_gzb, Bool.true_eq_false, Bool.false_eq_true, nI_leI, this, nI_add]
      exact e1
    · rw [e2]
      simp only [gsi_at, upd_at, Nat.reduceEqDiff, ↓reduceIte]
      by_cases q : j = i
      · subst q
        rw [if_neg (by omega), if_pos rfl, if_pos (by omega)]
      · rw [if_neg q]
        by_cases q2 : i + 1 ≤ j ∧ j < 5
        · rw [if_pos q2, if_pos (by omega)]
        · rw [if_neg q2, if_neg (by omega)]
theorem fM_image (σ : gS) : f_M_image σ = f_M_image_L31 gfu (nI 0) (gpi (gpi (gpi (gpi σ 59 24 (nI 1)) 59 25 (σ.1 59 6)) 59 26 (σ.1 59 21)) 59 27 (σ.1 59 22)) := by
  unfold f_M_image
  generalize f_M_image_L31 gfu = F
  simp only [gupE, gltE, gllE, litE, litLE, bindE, ↓reduceIte, gsi_at, gsi_l2, gsl_at, gsl_i1, upd_at, updL_at, Nat.reduceEqDiff, gix_nI, nI_clamp, bI_0, bI_gzb, Bool.true_eq_false, Bool.false_eq_true]
theorem copy_eq (c r : Nat) (σ : gS) : f_Le_copyFrom c r σ = some (gpi (gpi (gsi σ (c + 1) (va_cpy (σ.1 (r + 1)) (σ.1 (c + 1)) 0 0 5)) c 1 ((gsi σ (c + 1) (va_cpy (σ.1 (r + 1)) (σ.1 (c + 1)) 0 0 5)).1 r 1)) c 2 ((gpi (gsi σ (c + 1) (va_cpy (σ.1 (r + 1)) (σ.1 (c + 1)) 0 0 5)) c 1 ((gsi σ (c + 1) (va_cpy (σ.1 (r + 1)) (σ.1 (c + 1)) 0 0 5)).1 r 1)).1 r 2)) := by
  unfold f_Le_copyFrom
  have hg : gcpy (nI 0) (nI 0) (nI 5) 5 5 = true := by decide
  have c0 : (nI 0).toNatClampNeg = 0 := by decide
  have c5 : (nI 5).toNatClampNeg = 5 := by decide
  simp only [gup, lit_nI, hg, c0, c5, ↓reduceIte]
theorem cpy0 {α : Type} (f g : Nat → α) (n i : Nat) : va_cpy f g 0 0 n i = if i < n then f i else g i := by
  unfold va_cpy
  simp
theorem ag_image : Agr f_T_image f_M_image := by
  intro σ hR
  obtain ⟨n, K, E, P, B, F, W, D, m, hP, hT, hL, hC, hLe, hPi, hW, hS, h0⟩ := hR
  obtain ⟨⟨hn, h1, h2⟩, p4, -, -, hD, d1, d2⟩ := id hP
  obtain ⟨l1, ⟨a, la, l2, l2'⟩, ⟨b, lb, l3, l3'⟩⟩ := id hLe
  have q1 : ∀ k, inT [6] 39 k = true := fun _ => rfl
  have q2 : ∀ k, inT [6] 40 k = true := fun _ => rfl
  have q3 : ∀ k, inT [6] 42 k = true := fun _ => rfl
  obtain ⟨ρ, hρ, r1, r2, r3, r4, r5, r6, r7, r8, fρ⟩ : ∃ ρ, f_T_image σ = some (σ.1 37 4, ρ) ∧ (∀ i, i < 10 → ρ.1 39 i = σ.1 2 i) ∧ (∀ i, i < 10 → ρ.1 40 i = σ.1 5 i) ∧ (∀ i, i < 5 → ρ.1 42 i = σ.1 37 i) ∧ ρ.1 41 1 = nI a ∧ ρ.1 41 2 = nI b ∧ ρ.1 38 3 = nI n ∧ ρ.1 38 4 = nI D ∧ ρ.1 38 5 = nI 1 ∧ Fr (inT [6]) σ ρ := by
    have hg : gcpy (nI 0) (nI 0) (nI 10) 10 10 = true := by decide
    have c0 : (nI 0).toNatClampNeg = 0 := by decide
    have c10 : (nI 10).toNatClampNeg = 10 := by decide
    refine ⟨gpi (gpi (gpi (gpi (gpi (gsi (gsi (gsi σ 39 (va_cpy (σ.1 2) (σ.1 39) 0 0 10)) 40 (va_cpy (σ.1 5) (σ.1 40) 0 0 10)) 42 (va_cpy (σ.1 37) (σ.1 42) 0 0 5)) 41 1 (nI a)) 41 2 (nI b)) 38 3 (nI n)) 38 4 (nI D)) 38 5 (nI 1), ?_, fun i hi => ?_, fun i hi => ?_, fun i hi => ?_, ?_, ?_, ?_, ?_, ?_, (((((((((Fr.rf _ σ).si q1).si q2).si q3).pi rfl).pi rfl).pi rfl).pi rfl).pi rfl)⟩
    · unfold f_T_image f_Pi_take
      simp (disch := omega) only [gupE, gltE, gllE, litE, litLE, bindE, ↓reduceIte, gsi_at, gsi_l2, gsl_at, gsl_i1, upd_at, updL_at, Nat.reduceEqDiff, gix_nI, nI_clamp, bI_0, bI_gzb, Bool.true_eq_false, Bool.false_eq_true, hg, c0, c10, copy_eq, Nat.reduceAdd]
      rw [l2, l3, h1, d1]
      rfl
    · simp only [gsi_at, upd_at, Nat.reduceEqDiff, ↓reduceIte, cpy0, hi]
    · simp only [gsi_at, upd_at, Nat.reduceEqDiff, ↓reduceIte, cpy0, hi]
    · simp only [gsi_at, upd_at, Nat.reduceEqDiff, ↓reduceIte, cpy0, hi]
    · simp only [gsi_at, upd_at, Nat.reduceEqDiff, ↓reduceIte]
    · simp only [gsi_at, upd_at, Nat.reduceEqDiff, ↓reduceIte]
    · simp only [gsi_at, upd_at, Nat.reduceEqDiff, ↓reduceIte]
    · simp only [gsi_at, upd_at, Nat.reduceEqDiff, ↓reduceIte]
    · simp only [gsi_at, upd_at, Nat.reduceEqDiff, ↓reduceIte]
  have u1 : ρ.1 59 6 = nI n := (fρ.1 59 6 rfl).trans h2
  have u2 : ρ.1 59 21 = nI a := (fρ.1 59 21 rfl).trans l2'
  have u3 : ρ.1 59 22 = nI b := (fρ.1 59 22 rfl).trans l3'
  obtain ⟨s, hs⟩ : ∃ s, s = gpi (gpi (gpi (gpi ρ 59 24 (nI 1)) 59 25 (nI n)) 59 26 (nI a)) 59 27 (nI b) := ⟨_, rfl⟩
  obtain ⟨τ, e1, e2, e3⟩ := image31 43 0 gfu s (by decide) (by decide)
  obtain ⟨υ, g1, g2, g3⟩ := image57 5 0 gfu τ (by decide) (by decide)
  have fs : Fr (inT [6]) ρ s := by
    rw [hs]
    exact ((((Fr.rf _ ρ).pi rfl).pi rfl).pi rfl).pi rfl
  have f1 : Fr (inT [6]) σ υ := ((fρ.tr fs).tr (e3.sub fun c k q => by
    cases e : only 72 c k with
    | false => rfl
    | true =>
      simp only [only, beq_iff_eq] at e
      subst e
      exact absurd q (by rw [show inT [6] 72 k = true from rfl]; decide))).tr (g3.sub fun c k q => by
    cases e : only 73 c k with
    | false => rfl
    | true =>
      simp only [only, beq_iff_eq] at e
      subst e
      exact absurd q (by rw [show inT [6] 73 k = true from rfl]; decide))
  have us : ∀ c k, c ≠ 72 → c ≠ 73 → υ.1 c k = s.1 c k := fun c k z1 z2 => (only_ne g3 z2 k).trans (only_ne e3 z1 k)
  have us2 : ∀ c k, c ≠ 59 → c ≠ 72 → c ≠ 73 → υ.1 c k = ρ.1 c k := fun c k z0 z1 z2 => by
    rw [us c k z1 z2, hs, gpi_at, if_neg (fun q => z0 q.1), gpi_at, if_neg (fun q => z0 q.1), gpi_at, if_neg (fun q => z0 q.1), gpi_at, if_neg (fun q => z0 q.1)]
  have v72 : ∀ j, j < 43 → υ.1 72 j = σ.1 60 j := fun j hj => by
    rw [only_ne g3 (by decide), e2, if_pos ⟨Nat.zero_le _, hj⟩, hs, gpi_at, if_neg (by omega), gpi_at, if_neg (by omega), gpi_at, if_neg (by omega), gpi_at, if_neg (by omega), fρ.1 60 j rfl]
  have v73 : ∀ j, j < 5 → υ.1 73 j = σ.1 71 j := fun j hj => by
    rw [g2, if_pos ⟨Nat.zero_le _, hj⟩, only_ne e3 (by decide), hs, gpi_at, if_neg (by omega), gpi_at, if_neg (by omega), gpi_at, if_neg (by omega), gpi_at, if_neg (by omega), fρ.1 71 j rfl]
  have w59 : υ.1 59 24 = nI 1 ∧ υ.1 59 25 = nI n ∧ υ.1 59 26 = nI a ∧ υ.1 59 27 = nI b := by
    rw [us 59 24 (by decide) (by decide), us 59 25 (by decide) (by decide), us 59 26 (by decide) (by decide), us 59 27 (by decide) (by decide), hs]
    simp only [gsi_at, upd_at, Nat.reduceEqDiff, ↓reduceIte, and_self]
  refine ⟨σ.1 37 4, ρ, υ, hρ, ?_, n, K, E, P, B, F, W, D, m, kPeo f1 rfl hP, kTap f1 rfl hT, kLw f1 rfl hL, kChg f1 rfl hC, kLed f1 rfl hLe, Or.inr ⟨⟨?_, w59.1⟩, n, D, ⟨Nat.le_refl _, ?_, w59.2.1⟩, ⟨hD, ?_, ?_⟩, fun c hc => ?_, fun i hi => ?_, ⟨a, la, ?_, w59.2.2.1⟩, ⟨b, lb, ?_, w59.2.2.2⟩⟩, kWrd f1 rfl hW, kShv f1 rfl hS, k0 f1 rfl h0⟩
  · rw [fM_image, u1, u2, u3, ← hs, e1, g1]
    rw [us 71 4 (by decide) (by decide), hs, gpi_at, if_neg (by omega), gpi_at, if_neg (by omega), gpi_at, if_neg (by omega), gpi_at, if_neg (by omega), fρ.1 71 4 rfl, l1 4 (by decide)]
  · rw [us2 38 5 (by decide) (by decide) (by decide), r8]
  · rw [us2 38 3 (by decide) (by decide) (by decide), r6]
  · rw [us2 38 4 (by decide) (by decide) (by decide), r7]
  · rw [v72 42 (by decide), d2]
  · obtain ⟨⟨x1, x2, x3, x4⟩, ⟨y1, y2, y3, y4⟩, z1, z2, z3, z4⟩ := p4 c hc
    refine ⟨⟨K c, x1, ?_, ?_⟩, ?_, ?_⟩
    · rw [us2 39 c (by decide) (by decide) (by decide), r1 c (by omega), y1]
    · rw [v72 c (by omega), z1]
    · rw [us2 40 c (by decide) (by decide) (by decide), r2 c (by omega), y4]
      exact x4
    · rw [us2 40 c (by decide) (by decide) (by decide), r2 c (by omega), v72 (30 + c) (by omega), y4, z4]
  · rw [us2 42 i (by decide) (by decide) (by decide), r3 i hi, v73 i hi, l1 i hi]
  · rw [us2 41 1 (by decide) (by decide) (by decide), r4]
  · rw [us2 41 2 (by decide) (by decide) (by decide), r5]
