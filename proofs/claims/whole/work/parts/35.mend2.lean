/-! pure: the reference's changes; mend, undo, redo agree -/
theorem gfu_pos {t : Nat} (h : t < 2000) : ∃ f, gfu = f + 1 ∧ t ≤ f := ⟨1999, rfl, by omega⟩
theorem shift_eq (a v x : Int32) : ∀ (t i fu : Nat) (σ : gS), i + t = 40 → 1 ≤ i → t < fu → ∃ τ, f_M_becomes_L26 fu a v x (nI i) σ = f_M_becomes_j97 a v x (gpi τ 59 5 (τ.1 59 5 - nI 1)) ∧ τ.1 59 5 = σ.1 59 5 ∧
    (∀ c, c = 61 ∨ c = 62 ∨ c = 63 → ∀ j, τ.1 c j = if i ≤ j + 1 ∧ j < 39 then σ.1 c (j + 1) else σ.1 c j) ∧ Fr (inM [4]) σ τ := by
  intro t
  induction t with
  | zero =>
    intro i fu σ hi h1 hf
    obtain ⟨f, rfl⟩ : ∃ f, fu = f + 1 := ⟨fu - 1, by omega⟩
    have e : i = 40 := by omega
    subst e
    refine ⟨σ, ?_, rfl, fun c _ j => ?_, Fr.rf _ _⟩
    · unfold f_M_becomes_L26
      simp (disch := omega) only [gup, lit_nI, nI_leI, Nat.le_refl, ↓reduceIte]
    · have : ¬ (40 ≤ j + 1 ∧ j < 39) := by omega
      rw [if_neg this]
  | succ t ih =>
    intro i fu σ hi h1 hf
    obtain ⟨f, rfl⟩ : ∃ f, fu = f + 1 := ⟨fu - 1, by omega⟩
    obtain ⟨i0, rfl⟩ : ∃ i0, i = i0 + 1 := ⟨i - 1, by omega⟩
    obtain ⟨τ, h2, h3, h4, h5⟩ := ih (i0 + 2) f (gpi (gpi (gpi σ 61 i0 (σ.1 61 (i0 + 1))) 62 i0 (σ.1 62 (i0 + 1))) 63 i0 (σ.1 63 (i0 + 1))) (by omega) (by omega) (by omega)
    refine ⟨τ, ?_, ?_, fun c hc j => ?_, ((((Fr.rf _ σ).pi rfl).pi rfl).pi rfl).tr h5⟩
    · unfold f_M_becomes_L26
      have hle : ¬ 40 ≤ i0 + 1 := by omega
      simp (disch := omega) only [gupE, gltE, gllE, litE, litLE, bindE, ↓reduceIte, gsi_at, gsi_l2, gsl_at, gsl_i1, upd_at, updL_at, Nat.reduceEqDiff, gix_nI, nI_clamp, bI_0, bI_gzb, Bool.true_eq_false, Bool.false_eq_true, nI_leI, hle, pk_sub, Nat.add_sub_cancel, nI_add]
      exact h2
    · rw [h3]
      simp only [gsi_at, upd_at, Nat.reduceEqDiff, ↓reduceIte]
    · rw [h4 c hc j]
      have hj : ∀ c, c = 61 ∨ c = 62 ∨ c = 63 → ∀ j, (gpi (gpi (gpi σ 61 i0 (σ.1 61 (i0 + 1))) 62 i0 (σ.1 62 (i0 + 1))) 63 i0 (σ.1 63 (i0 + 1))).1 c j = if j = i0 then σ.1 c (i0 + 1) else σ.1 c j := by
        intro c hc j
        rcases hc with rfl | rfl | rfl <;> simp only [gsi_at, upd_at, Nat.reduceEqDiff, ↓reduceIte]
      rw [hj c hc, hj c hc]
      by_cases e1 : i0 + 2 ≤ j + 1 ∧ j < 39
      · have e2 : i0 + 1 ≤ j + 1 ∧ j < 39 := by omega
        have e3 : ¬ j + 1 = i0 := by omega
        rw [if_pos e1, if_pos e2, if_neg e3]
      · rw [if_neg e1]
        by_cases e4 : j = i0
        · have e2 : i0 + 1 ≤ j + 1 ∧ j < 39 := by omega
          rw [if_pos e4, if_pos e2, e4]
        · have e2 : ¬ (i0 + 1 ≤ j + 1 ∧ j < 39) := by omega
          rw [if_neg e4, if_neg e2]
theorem j97_eq {σ : gS} {d : Nat} (h : σ.1 59 5 = nI d) (hd : d < 40) (p : Nat) (hp : p < 43) (v x : Int32) : f_M_becomes_j97 (nI p) v x σ = some (x, gpi (gpi (gpi (gpi (gpi (gpi σ 61 d (nI p)) 62 d x) 63 d v) 59 5 (nI (d + 1))) 59 4 (nI (d + 1))) 60 p v) := by
  unfold f_M_becomes_j97
  simp (disch := omega) only [gupE, gltE, gllE, litE, litLE, bindE, ↓reduceIte, gsi_at, gsi_l2, gsl_at, gsl_i1, upd_at, updL_at, Nat.reduceEqDiff, gix_nI, nI_clamp, bI_0, bI_gzb, Bool.true_eq_false, Bool.false_eq_true, h, nI_add]
theorem becomes_eq {σ : gS} {d k : Nat} {U Wt : Nat → Nat} {A Bf : Nat → Int32} (hdk : d ≤ k) (hk : k ≤ 40) (h : ChgM σ d k U Wt A Bf) (w u : Nat) (hp : plc w u < 43) (v : Int32) (hx : ¬ σ.1 60 (plc w u) = v) :
    ∃ τ, f_M_becomes (nI (plc w u)) v σ = some (σ.1 60 (plc w u), gpi τ 60 (plc w u) v) ∧ ChgM τ (pushd d) (pushd d) (pushf d U u) (pushf d Wt w) (pushf d A (σ.1 60 (plc w u))) (pushf d Bf v) ∧ Fr (inM [4]) σ τ := by
  obtain ⟨h1, h2, h3⟩ := h
  generalize hpp : plc w u = p at hp hx ⊢
  unfold f_M_becomes
  by_cases hd : d < 40
  · have e : ¬ nI d = nI 40 := by rw [nI_eq (by omega) (by omega)]; omega
    refine ⟨gpi (gpi (gpi (gpi (gpi σ 61 d (nI p)) 62 d (σ.1 60 p)) 63 d v) 59 5 (nI (d + 1))) 59 4 (nI (d + 1)), ?_, ⟨?_, ?_, fun i hi => ?_⟩, (((((Fr.rf _ σ).pi rfl).pi rfl).pi rfl).pi rfl).pi rfl⟩
    · simp (disch := omega) only [gupE, gltE, gllE, litE, litLE, bindE, ↓reduceIte, gsi_at, gsi_l2, gsl_at, gsl_i1, upd_at, updL_at, Nat.reduceEqDiff, gix_nI, nI_clamp, bI_0, bI_gzb, Bool.true_eq_false, Bool.false_eq_true, hx, h1, e, j97_eq h1 hd p hp]
    · simp only [gsi_at, upd_at, Nat.reduceEqDiff, ↓reduceIte, pushd, hd]
    · simp only [gsi_at, upd_at, Nat.reduceEqDiff, ↓reduceIte, pushd, hd]
    · simp only [gsi_at, upd_at, Nat.reduceEqDiff, ↓reduceIte, pushd, pushf, hd] at hi ⊢
      by_cases e : i = d
      · simp only [e, ↓reduceIte, and_self, hpp]
      · simp only [e, ↓reduceIte]
        exact h3 i (by omega)
  · have e : d = 40 := by omega
    have ek : k = 40 := by omega
    subst e
    subst ek
    obtain ⟨τ, h4, h5, h6, h7⟩ := shift_eq (nI p) v (σ.1 60 p) 39 1 gfu σ (by decide) (by decide) (by decide)
    have h8 : (gpi τ 59 5 (τ.1 59 5 - nI 1)).1 59 5 = nI 39 := by
      simp (disch := omega) only [gsi_at, upd_at, ↓reduceIte, h5, h1, pk_sub]
    refine ⟨gpi (gpi (gpi (gpi (gpi (gpi τ 59 5 (τ.1 59 5 - nI 1)) 61 39 (nI p)) 62 39 (σ.1 60 p)) 63 39 v) 59 5 (nI 40)) 59 4 (nI 40), ?_, ⟨?_, ?_, fun i hi => ?_⟩, ((((((h7).pi rfl).pi rfl).pi rfl).pi rfl).pi rfl).pi rfl⟩
    · simp (disch := omega) only [gupE, gltE, gllE, litE, litLE, bindE, ↓reduceIte, gsi_at, gsi_l2, gsl_at, gsl_i1, upd_at, updL_at, Nat.reduceEqDiff, gix_nI, nI_clamp, bI_0, bI_gzb, Bool.true_eq_false, Bool.false_eq_true, hx, h1, h4, j97_eq h8 (by decide) p hp]
    · simp only [gsi_at, upd_at, Nat.reduceEqDiff, ↓reduceIte, pushd, hd]
    · simp only [gsi_at, upd_at, Nat.reduceEqDiff, ↓reduceIte, pushd, hd]
    · simp only [gsi_at, upd_at, Nat.reduceEqDiff, ↓reduceIte, pushd, pushf, hd] at hi ⊢
      by_cases e : i = 39
      · simp only [e, ↓reduceIte, and_self, hpp]
      · have e2 : 1 ≤ i + 1 ∧ i < 39 := by omega
        simp only [e, ↓reduceIte, h6 61 (Or.inl rfl), h6 62 (Or.inr (Or.inl rfl)), h6 63 (Or.inr (Or.inr rfl)), e2, and_self]
        exact h3 (i + 1) (by omega)
theorem cc_lt (w u : Nat) : (cc w u).1 < 59 ∧ (w < 7 → comp (cc w u).1 (cc w u).2 = 1) := by
  unfold cc
  by_cases h : w < 4
  · simp only [h, ↓reduceIte]
    refine ⟨by omega, fun _ => ?_⟩
    have : w = 0 ∨ w = 1 ∨ w = 2 ∨ w = 3 := by omega
    rcases this with rfl | rfl | rfl | rfl <;> rfl
  · simp only [h, ↓reduceIte]
    refine ⟨by omega, fun h7 => ?_⟩
    have : w = 4 ∨ w = 5 ∨ w = 6 := by omega
    rcases this with rfl | rfl | rfl <;> rfl
theorem inC_cc {w : Nat} (hw : w < 7) (u : Nat) : inC [1] (cc w u).1 (cc w u).2 = true := by
  have := cc_lt w u
  unfold inC inT
  rw [this.2 hw]
  simp [this.1]
theorem cc_ne {n w u : Nat} (h : okn n w u) : ¬ ((cc w u).1 = 1 ∧ (cc w u).2 = 6) := by
  unfold cc
  by_cases q : w < 4
  · simp only [q, ↓reduceIte]
    omega
  · simp only [q, ↓reduceIte]
    have := h.1
    have h3 : w = 4 ∨ w = 5 ∨ w = 6 := by omega
    rcases h3 with rfl | rfl | rfl <;> decide
theorem gpi_at (σ : gS) (c k : Nat) (x : Int32) (c' k' : Nat) : (gpi σ c k x).1 c' k' = if c' = c ∧ k' = k then x else σ.1 c' k' := by
  rw [gsi_at]
  by_cases h : c' = c
  · subst h
    rw [if_pos rfl, upd_at]
    by_cases h2 : k' = k <;> simp [h2]
  · simp [h]
/-- one number told anew, on both sides, with changes of the lists of changes between -/
theorem put_N {σ τ : gS} {n : Nat} {N : Nat → Nat → Int32} (h : PeoN σ n N) {w u : Nat} {v : Int32} (hk : okn n w u) (hv : okv w v = true) (hF : Fr (inT [4]) (gpi σ (cc w u).1 (cc w u).2 v) τ) : PeoN (gpi τ 60 (plc w u) v) n (setN N w u v) := by
  have hp := plc_lt h.1.1 hk
  have hc1 : ∀ k, k = 6 ∨ k = 7 ∨ k = 8 ∨ k = 9 → ∀ x, (gpi τ 60 (plc w u) v).1 1 k = x ↔ (gpi σ (cc w u).1 (cc w u).2 v).1 1 k = x := by
    intro k hk x
    rw [gpi_at, if_neg (by omega), hF.1 1 k (by rcases hk with rfl | rfl | rfl | rfl <;> rfl)]
  refine h.set hk hv ?_ ?_ (fun w' u' hk' => ?_) (fun p hp => ?_)
  · rw [gpi_at, if_neg (by omega), hF.1 1 6 rfl, gpi_at, if_neg]
    intro q
    exact cc_ne hk ⟨q.1.symm, q.2.symm⟩
  · rw [gpi_at, if_neg (by omega), hF.1 59 6 rfl, gpi_at, if_neg]
    have := (cc_lt w u).1
    omega
  · have h1 := cc_lt w' u'
    have h2 : inT [4] (cc w' u').1 (cc w' u').2 = false := by
      unfold inT
      rw [h1.2 hk'.1]
      rfl
    rw [gpi_at, if_neg (by omega), hF.1 _ _ h2, gpi_at]
  · rw [gpi_at]
    by_cases e : p = plc w u
    · rw [if_pos ⟨rfl, e⟩, if_pos e]
    · rw [if_neg (fun q => e q.2), if_neg e, hF.1 60 p rfl, gpi_at, if_neg]
      have := (cc_lt w u).1
      omega
theorem ag_mend (v1 v2 v3 : Int32) : Agr (f_T_mend v1 v2 v3) (f_M_mend v1 v2 v3) := by
  intro σ hR
  have hR0 := hR
  obtain ⟨n, K, E, P, B, F, W, D, m, hP, hT, hL, hC, hLe, hPi, hW, hS, h0⟩ := hR
  obtain ⟨⟨hn, h1, h2⟩, -⟩ := id hP
  unfold f_T_mend f_M_mend
  simp (disch := omega) only [gupE, gltE, gllE, litE, litLE, bindE, ↓reduceIte, gsi_at, gsi_l2, gsl_at, gsl_i1, upd_at, updL_at, Nat.reduceEqDiff, gix_nI, nI_clamp, bI_0, bI_gzb, Bool.true_eq_false, Bool.false_eq_true, knows_eq h1 hn]
  cases hk : knb n v1 v2 with
  | false =>
    refine ⟨_, σ, σ, rfl, ?_, hR0⟩
    rw [place_f h2 hn v1 v2 hk]
    simp only [gupE, gltE, gllE, litE, litLE, bindE, ↓reduceIte, gsi_at, gsi_l2, gsl_at, gsl_i1, upd_at, updL_at, Nat.reduceEqDiff, gix_nI, nI_clamp, bI_0, bI_gzb, Bool.true_eq_false, Bool.false_eq_true, neg1_lt]
  | true =>
    obtain ⟨w, u, rfl, rfl, ho⟩ := knb_t hn hk
    have hp := plc_lt hn ho
    have hm := may_eq hP ho
    simp only [Bool.true_eq_false, ↓reduceIte, takes_eq ho.1, Option.bind_some, bI_0]
    cases hv : okv w v3 with
    | false =>
      refine ⟨_, σ, σ, rfl, ?_, hR0⟩
      rw [place_t h2 hn ho]
      simp (disch := omega) only [gupE, gltE, gllE, litE, litLE, bindE, ↓reduceIte, gsi_at, gsi_l2, gsl_at, gsl_i1, upd_at, updL_at, Nat.reduceEqDiff, gix_nI, nI_clamp, bI_0, bI_gzb, Bool.true_eq_false, Bool.false_eq_true, not_lt0, mayBecome_eq ho.1, hv]
    | true =>
      simp only [Bool.true_eq_false, ↓reduceIte, read_eq hP ho, Option.bind_some]
      by_cases hx : vof K E P B F W D w u = v3
      · refine ⟨_, σ, σ, if_pos hx, ?_, hR0⟩
        rw [place_t h2 hn ho]
        simp (disch := omega) only [gupE, gltE, gllE, litE, litLE, bindE, ↓reduceIte, gsi_at, gsi_l2, gsl_at, gsl_i1, upd_at, updL_at, Nat.reduceEqDiff, gix_nI, nI_clamp, bI_0, bI_gzb, Bool.true_eq_false, Bool.false_eq_true, not_lt0, mayBecome_eq ho.1, hv]
        unfold f_M_becomes
        simp (disch := omega) only [gupE, gltE, gllE, litE, litLE, bindE, ↓reduceIte, gsi_at, gsi_l2, gsl_at, gsl_i1, upd_at, updL_at, Nat.reduceEqDiff, gix_nI, nI_clamp, bI_0, bI_gzb, Bool.true_eq_false, Bool.false_eq_true, hm, hx]
      · obtain ⟨d, k, U, Wt, A, Bf, cV, cC, cM⟩ := hC.split hn
        obtain ⟨τ, e1, e2, e3⟩ := add_eq cV.1 cV.2.1 cC u w (vof K E P B F W D w u) v3
        have h1' : τ.1 1 6 = nI n := (e3.1 1 6 rfl).trans h1
        have e4 := write_eq h1' hn ho hv
        obtain ⟨ρ, hρ⟩ : ∃ ρ, ρ = gpi τ (cc w u).1 (cc w u).2 v3 := ⟨_, rfl⟩
        have fρ : Fr (inC [1]) τ ρ := by
          rw [hρ]
          exact (Fr.rf _ τ).pi (inC_cc ho.1 u)
        have hPτ : PeoN τ n (vof K E P B F W D) := (kPeo e3.ofC rfl hP).N
        have hmρ : ρ.1 60 (plc w u) = vof K E P B F W D w u := by
          rw [FrC_hi fρ (by decide), FrC_hi e3 (by decide)]
          exact hm
        obtain ⟨ν, e5, e6, e7⟩ := becomes_eq cV.1 cV.2.1 ((cM.hi e3).hi fρ) w u hp v3 (by rw [hmρ]; exact hx)
        rw [hmρ] at e5 e6
        have hPν := put_N hPτ ho hv (τ := ν) (by rw [← hρ]; exact e7.ofM)
        obtain ⟨K', E', P', B', F', W', D', hP'⟩ := hPν.P
        have f1 : Fr (inT [1, 4]) σ (gpi ν 60 (plc w u) v3) := (((e3.ofC.more (T2 := [1, 4]) (by intro i hi; simp at hi ⊢; omega)).tr (fρ.ofC.more (by intro i hi; simp at hi ⊢; omega))).tr (e7.ofM.more (by intro i hi; simp at hi ⊢; omega))).pi rfl
        have hcC : ChgC (gpi ν 60 (plc w u) v3) (pushd d) (pushd d) (pushf d U u) (pushf d Wt w) (pushf d A (vof K E P B F W D w u)) (pushf d Bf v3) := by
          have q1 : ChgC ρ (pushd d) (pushd d) (pushf d U u) (pushf d Wt w) (pushf d A (vof K E P B F W D w u)) (pushf d Bf v3) := by
            unfold ChgC at e2 ⊢
            simp only [fρ.1 31 4 rfl, fρ.1 31 5 rfl, fρ.1 32 _ rfl, fρ.1 33 _ rfl, fρ.1 34 _ rfl, fρ.1 35 _ rfl]
            exact e2
          have q2 := q1.lo e7
          unfold ChgC at q2 ⊢
          simp only [gsi_at, Nat.reduceEqDiff, ↓reduceIte]
          exact q2
        have hcM : ChgM (gpi ν 60 (plc w u) v3) (pushd d) (pushd d) (pushf d U u) (pushf d Wt w) (pushf d A (vof K E P B F W D w u)) (pushf d Bf v3) := by
          unfold ChgM at e6 ⊢
          simp only [gsi_at, Nat.reduceEqDiff, ↓reduceIte]
          exact e6
        have hcV := cV.push ho (hPτ.2 w u ho).1 hv
        refine ⟨vof K E P B F W D w u, ρ, gpi ν 60 (plc w u) v3, ?_, ?_, n, K', E', P', B', F', W', D', m, hP', kTap f1 rfl hT, kLw f1 rfl hL, Chg.join hcV hcC hcM, kLed f1 rfl hLe, kPic f1 rfl hPi, kWrd f1 rfl hW, kShv f1 rfl hS, k0 f1 rfl h0⟩
        · rw [if_neg hx, e1]
          simp only [Option.bind_some]
          rw [e4, ← hρ]
          rfl
        · have h2' : ρ.1 59 6 = nI n := by
            rw [FrC_hi fρ (by decide), FrC_hi e3 (by decide)]
            exact h2
          rw [place_t h2' hn ho]
          simp (disch := omega) only [gupE, gltE, gllE, litE, litLE, bindE, ↓reduceIte, gsi_at, gsi_l2, gsl_at, gsl_i1, upd_at, updL_at, Nat.reduceEqDiff, gix_nI, nI_clamp, bI_0, bI_gzb, Bool.true_eq_false, Bool.false_eq_true, not_lt0, mayBecome_eq ho.1, hv]
          rw [e5]
          rfl
