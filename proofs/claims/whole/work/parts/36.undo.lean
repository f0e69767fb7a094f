/-! pure: undo, redo, feed, led, ends, paid -/
theorem cc_small (w u : Nat) : (cc w u).1 ≤ 5 := by
  unfold cc
  by_cases h : w < 4 <;> simp only [h, ↓reduceIte] <;> omega
theorem gpi_cc (σ : gS) (w u : Nat) (v : Int32) {c : Nat} (hc : 5 < c) (k : Nat) : (gpi σ (cc w u).1 (cc w u).2 v).1 c k = σ.1 c k := by
  have := cc_small w u
  rw [gpi_at, if_neg (by omega)]
theorem ChgC.of31 {σ τ : gS} {d d' k : Nat} {U Wt : Nat → Nat} {A Bf : Nat → Int32} (h : ChgC σ d k U Wt A Bf) (h1 : τ.1 31 4 = nI d') (h2 : τ.1 31 5 = σ.1 31 5) (h3 : ∀ i, τ.1 32 i = σ.1 32 i ∧ τ.1 33 i = σ.1 33 i ∧ τ.1 34 i = σ.1 34 i ∧ τ.1 35 i = σ.1 35 i) : ChgC τ d' k U Wt A Bf := by
  refine ⟨h1, h2.trans h.2.1, fun i hi => ?_⟩
  obtain ⟨a, b, c, e⟩ := h3 i
  rw [a, b, c, e]
  exact h.2.2 i hi
theorem ChgM.of59 {σ τ : gS} {d d' k : Nat} {U Wt : Nat → Nat} {A Bf : Nat → Int32} (h : ChgM σ d k U Wt A Bf) (h1 : τ.1 59 5 = nI d') (h2 : τ.1 59 4 = σ.1 59 4) (h3 : ∀ i, τ.1 61 i = σ.1 61 i ∧ τ.1 62 i = σ.1 62 i ∧ τ.1 63 i = σ.1 63 i) : ChgM τ d' k U Wt A Bf := by
  refine ⟨h1, h2.trans h.2.1, fun i hi => ?_⟩
  obtain ⟨a, b, c⟩ := h3 i
  rw [a, b, c]
  exact h.2.2 i hi
theorem ag_undo : Agr f_T_undo f_M_undo := by
  intro σ hR
  have hR0 := hR
  obtain ⟨n, K, E, P, B, F, W, D, m, hP, hT, hL, hC, hLe, hPi, hW, hS, h0⟩ := hR
  obtain ⟨⟨hn, h1, h2⟩, -⟩ := id hP
  obtain ⟨d, k, U, Wt, A, Bf, cV, cC, cM⟩ := hC.split hn
  have hd40 : d ≤ 40 := Nat.le_trans cV.1 cV.2.1
  unfold f_T_undo f_M_undo
  by_cases hd : d = 0
  · subst hd
    refine ⟨-nI 5, σ, σ, ?_, ?_, hR0⟩
    · simp only [gupE, gltE, gllE, litE, litLE, bindE, ↓reduceIte, gsi_at, gsi_l2, gsl_at, gsl_i1, upd_at, updL_at, Nat.reduceEqDiff, gix_nI, nI_clamp, bI_0, bI_gzb, Bool.true_eq_false, Bool.false_eq_true, cC.1]
    · simp only [gupE, gltE, gllE, litE, litLE, bindE, ↓reduceIte, gsi_at, gsi_l2, gsl_at, gsl_i1, upd_at, updL_at, Nat.reduceEqDiff, gix_nI, nI_clamp, bI_0, bI_gzb, Bool.true_eq_false, Bool.false_eq_true, cM.1]
  · obtain ⟨d0, rfl⟩ : ∃ d0, d = d0 + 1 := ⟨d - 1, by omega⟩
    have hlt : d0 < k := by have := cV.1; omega
    obtain ⟨o1, o2, o3⟩ := cV.2.2 d0 hlt
    obtain ⟨b1, b2, b3, b4⟩ := cC.2.2 d0 hlt
    obtain ⟨m1, m2, m3⟩ := cM.2.2 d0 hlt
    have hp := plc_lt hn o1
    obtain ⟨s, hs⟩ : ∃ s, s = gpi σ 31 4 (nI d0) := ⟨_, rfl⟩
    have fs : Fr (inC [4]) σ s := by
      rw [hs]
      exact (Fr.rf _ σ).pi rfl
    have sr : ∀ c k', ¬ (c = 31 ∧ k' = 4) → s.1 c k' = σ.1 c k' := fun c k' q => by rw [hs, gpi_at, if_neg q]
    have s31 : s.1 31 4 = nI d0 := by rw [hs, gpi_at, if_pos ⟨rfl, rfl⟩]
    have e4 := write_eq (σ := s) ((sr 1 6 (by decide)).trans h1) hn o1 o2
    obtain ⟨ρ, hρ⟩ : ∃ ρ, ρ = gpi s (cc (Wt d0) (U d0)).1 (cc (Wt d0) (U d0)).2 (A d0) := ⟨_, rfl⟩
    have rr : ∀ c k', 5 < c → ρ.1 c k' = s.1 c k' := fun c k' q => by rw [hρ]; exact gpi_cc s _ _ _ q k'
    have fρ : Fr (inC [1]) s ρ := by
      rw [hρ]
      exact (Fr.rf _ s).pi (inC_cc o1.1 _)
    have hPs : PeoN s n (vof K E P B F W D) := (kPeo fs.ofC rfl hP).N
    have hPν := put_N hPs o1 o2 (τ := gpi ρ 59 5 (nI d0)) (by rw [← hρ]; exact (Fr.rf _ ρ).pi rfl)
    obtain ⟨K', E', P', B', F', W', D', hP'⟩ := hPν.P
    have f1 : Fr (inT [1, 4]) σ (gpi (gpi ρ 59 5 (nI d0)) 60 (plc (Wt d0) (U d0)) (A d0)) := (((fs.ofC.more (T2 := [1, 4]) (by intro i hi; simp at hi ⊢; omega)).tr (fρ.ofC.more (by intro i hi; simp at hi ⊢; omega))).pi rfl).pi rfl
    have hnC : ChgC (gpi (gpi ρ 59 5 (nI d0)) 60 (plc (Wt d0) (U d0)) (A d0)) d0 k U Wt A Bf := by
      refine cC.of31 ?_ ?_ fun i => ⟨?_, ?_, ?_, ?_⟩
      · rw [gpi_at, if_neg (by omega), gpi_at, if_neg (by omega), rr 31 4 (by decide), s31]
      · rw [gpi_at, if_neg (by omega), gpi_at, if_neg (by omega), rr 31 5 (by decide), sr 31 5 (by decide)]
      · rw [gpi_at, if_neg (by omega), gpi_at, if_neg (by omega), rr 32 i (by decide), sr 32 i (by omega)]
      · rw [gpi_at, if_neg (by omega), gpi_at, if_neg (by omega), rr 33 i (by decide), sr 33 i (by omega)]
      · rw [gpi_at, if_neg (by omega), gpi_at, if_neg (by omega), rr 34 i (by decide), sr 34 i (by omega)]
      · rw [gpi_at, if_neg (by omega), gpi_at, if_neg (by omega), rr 35 i (by decide), sr 35 i (by omega)]
    have hnM : ChgM (gpi (gpi ρ 59 5 (nI d0)) 60 (plc (Wt d0) (U d0)) (A d0)) d0 k U Wt A Bf := by
      refine cM.of59 ?_ ?_ fun i => ⟨?_, ?_, ?_⟩
      · rw [gpi_at, if_neg (by omega), gpi_at, if_pos ⟨rfl, rfl⟩]
      · rw [gpi_at, if_neg (by omega), gpi_at, if_neg (by omega), rr 59 4 (by decide), sr 59 4 (by omega)]
      · rw [gpi_at, if_neg (by omega), gpi_at, if_neg (by omega), rr 61 i (by decide), sr 61 i (by omega)]
      · rw [gpi_at, if_neg (by omega), gpi_at, if_neg (by omega), rr 62 i (by decide), sr 62 i (by omega)]
      · rw [gpi_at, if_neg (by omega), gpi_at, if_neg (by omega), rr 63 i (by decide), sr 63 i (by omega)]
    refine ⟨nI d0, ρ, gpi (gpi ρ 59 5 (nI d0)) 60 (plc (Wt d0) (U d0)) (A d0), ?_, ?_, n, K', E', P', B', F', W', D', m, hP', kTap f1 rfl hT, kLw f1 rfl hL, Chg.join (d := d0) ⟨by omega, cV.2.1, cV.2.2⟩ hnC hnM, kLed f1 rfl hLe, kPic f1 rfl hPi, kWrd f1 rfl hW, kShv f1 rfl hS, k0 f1 rfl h0⟩
    · have q1 : ¬ nI (d0 + 1) = nI 0 := by rw [nI_eq (by omega) (by omega)]; omega
      have q2 : ¬ nI (d0 + 1) ≤ nI 0 := by rw [nI_leI (by omega) (by omega)]; omega
      unfold f_Ch_stepBack
      simp (disch := omega) only [gup, lit_nI, cC.1, q1, q2, ↓reduceIte, pk_sub, Nat.add_sub_cancel, ← hs, s31, gix_nI, nI_clamp, sr 32 d0 (by omega), sr 33 d0 (by omega), sr 34 d0 (by omega), b1, b2, b3, e4, ← hρ, Option.bind_some]
      rw [rr 31 4 (by decide), s31]
    · have q1 : ¬ nI (d0 + 1) = nI 0 := by rw [nI_eq (by omega) (by omega)]; omega
      have q3 : ∀ c k', 59 ≤ c → ρ.1 c k' = σ.1 c k' := fun c k' q => by rw [rr c k' (by omega), sr c k' (by omega)]
      have r1 : (gpi ρ 59 5 (nI d0)).1 61 d0 = nI (plc (Wt d0) (U d0)) := by rw [gpi_at, if_neg (by omega), q3 61 d0 (by decide), m1]
      have r2 : (gpi ρ 59 5 (nI d0)).1 62 d0 = A d0 := by rw [gpi_at, if_neg (by omega), q3 62 d0 (by decide), m2]
      have r3 : (gpi ρ 59 5 (nI d0)).1 59 5 = nI d0 := by rw [gpi_at, if_pos ⟨rfl, rfl⟩]
      simp (disch := omega) only [gup, lit_nI, q3 59 5 (by decide), cM.1, q1, ↓reduceIte, pk_sub, Nat.add_sub_cancel, r3, gix_nI, nI_clamp, r1, r2]
      rw [gpi_at, if_neg (by omega), r3]
theorem ag_redo : Agr f_T_redo f_M_redo := by
  intro σ hR
  have hR0 := hR
  obtain ⟨n, K, E, P, B, F, W, D, m, hP, hT, hL, hC, hLe, hPi, hW, hS, h0⟩ := hR
  obtain ⟨⟨hn, h1, h2⟩, -⟩ := id hP
  obtain ⟨d, k, U, Wt, A, Bf, cV, cC, cM⟩ := hC.split hn
  have hk40 : k ≤ 40 := cV.2.1
  have hdk := cV.1
  unfold f_T_redo f_M_redo
  by_cases hd : d = k
  · subst hd
    refine ⟨-nI 5, σ, σ, ?_, ?_, hR0⟩
    · simp only [gupE, gltE, gllE, litE, litLE, bindE, ↓reduceIte, gsi_at, gsi_l2, gsl_at, gsl_i1, upd_at, updL_at, Nat.reduceEqDiff, gix_nI, nI_clamp, bI_0, bI_gzb, Bool.true_eq_false, Bool.false_eq_true, cC.1, cC.2.1]
    · simp only [gupE, gltE, gllE, litE, litLE, bindE, ↓reduceIte, gsi_at, gsi_l2, gsl_at, gsl_i1, upd_at, updL_at, Nat.reduceEqDiff, gix_nI, nI_clamp, bI_0, bI_gzb, Bool.true_eq_false, Bool.false_eq_true, cM.1, cM.2.1]
  · have hlt : d < k := by omega
    obtain ⟨o1, o2, o3⟩ := cV.2.2 d hlt
    obtain ⟨b1, b2, b3, b4⟩ := cC.2.2 d hlt
    obtain ⟨m1, m2, m3⟩ := cM.2.2 d hlt
    have hp := plc_lt hn o1
    have e4 := write_eq h1 hn o1 o3
    obtain ⟨ρ, hρ⟩ : ∃ ρ, ρ = gpi σ (cc (Wt d) (U d)).1 (cc (Wt d) (U d)).2 (Bf d) := ⟨_, rfl⟩
    have rr : ∀ c k', 5 < c → ρ.1 c k' = σ.1 c k' := fun c k' q => by rw [hρ]; exact gpi_cc σ _ _ _ q k'
    have fρ : Fr (inC [1]) σ ρ := by
      rw [hρ]
      exact (Fr.rf _ σ).pi (inC_cc o1.1 _)
    have hPν := put_N hP.N o1 o3 (τ := gpi ρ 31 4 (nI (d + 1))) (by rw [← hρ]; exact (Fr.rf _ ρ).pi rfl)
    obtain ⟨K', E', P', B', F', W', D', hP'⟩ := hPν.P
    obtain ⟨υ, hυ⟩ : ∃ υ, υ = gpi (gpi (gpi ρ 31 4 (nI (d + 1))) 60 (plc (Wt d) (U d)) (Bf d)) 59 5 (nI (d + 1)) := ⟨_, rfl⟩
    have fυ : Fr (inT [4]) (gpi (gpi ρ 31 4 (nI (d + 1))) 60 (plc (Wt d) (U d)) (Bf d)) υ := by
      rw [hυ]
      exact (Fr.rf _ _).pi rfl
    have f1 : Fr (inT [1, 4]) σ υ := by
      rw [hυ]
      exact (((fρ.ofC.more (T2 := [1, 4]) (by intro i hi; simp at hi ⊢; omega)).pi rfl).pi rfl).pi rfl
    have ur : ∀ c k', 5 < c → c ≠ 60 → ¬ (c = 31 ∧ k' = 4) → ¬ (c = 59 ∧ k' = 5) → υ.1 c k' = σ.1 c k' := by
      intro c k' q1 q2 q3 q4
      rw [hυ, gpi_at, if_neg q4, gpi_at, if_neg (fun q => q2 q.1), gpi_at, if_neg q3, rr c k' q1]
    have hnC : ChgC υ (d + 1) k U Wt A Bf := by
      refine cC.of31 ?_ (ur 31 5 (by decide) (by decide) (by decide) (by decide)) fun i => ⟨ur 32 i (by decide) (by decide) (by omega) (by omega), ur 33 i (by decide) (by decide) (by omega) (by omega), ur 34 i (by decide) (by decide) (by omega) (by omega), ur 35 i (by decide) (by decide) (by omega) (by omega)⟩
      rw [hυ, gpi_at, if_neg (by omega), gpi_at, if_neg (by omega), gpi_at, if_pos ⟨rfl, rfl⟩]
    have hnM : ChgM υ (d + 1) k U Wt A Bf := by
      refine cM.of59 ?_ (ur 59 4 (by decide) (by decide) (by decide) (by decide)) fun i => ⟨ur 61 i (by decide) (by decide) (by omega) (by omega), ur 62 i (by decide) (by decide) (by omega) (by omega), ur 63 i (by decide) (by decide) (by omega) (by omega)⟩
      rw [hυ, gpi_at, if_pos ⟨rfl, rfl⟩]
    have q1 : ¬ nI d = nI k := by rw [nI_eq (by omega) (by omega)]; omega
    refine ⟨nI (k - (d + 1)), gpi ρ 31 4 (nI (d + 1)), υ, ?_, ?_, n, K', E', P', B', F', W', D', m, kPeo fυ rfl hP', kTap f1 rfl hT, kLw f1 rfl hL, Chg.join (d := d + 1) ⟨by omega, cV.2.1, cV.2.2⟩ hnC hnM, kLed f1 rfl hLe, kPic f1 rfl hPi, kWrd f1 rfl hW, kShv f1 rfl hS, k0 f1 rfl h0⟩
    · have q2 : ¬ nI k ≤ nI d := by rw [nI_leI (by omega) (by omega)]; omega
      unfold f_Ch_stepOn
      simp (disch := omega) only [gup, lit_nI, cC.1, cC.2.1, q1, q2, ↓reduceIte, gix_nI, nI_clamp, b1, b2, b4, e4, ← hρ, Option.bind_some, rr 31 4 (by decide), nI_add]
      simp (disch := omega) only [gpi_at, Nat.reduceEqDiff, and_false, and_self, ↓reduceIte, rr 31 5 (by decide), cC.2.1, pk_sub]
    · have q3 : ∀ c k', 59 ≤ c → (gpi ρ 31 4 (nI (d + 1))).1 c k' = σ.1 c k' := fun c k' q => by rw [gpi_at, if_neg (by omega), rr c k' (by omega)]
      simp (disch := omega) only [gup, lit_nI, q3 59 5 (by decide), q3 59 4 (by decide), q3 61 d (by decide), q3 63 d (by decide), cM.1, cM.2.1, m1, m3, q1, ↓reduceIte, gix_nI, nI_clamp]
      have r1 : (gpi (gpi ρ 31 4 (nI (d + 1))) 60 (plc (Wt d) (U d)) (Bf d)).1 59 5 = nI d := by rw [gpi_at, if_neg (by omega), q3 59 5 (by decide), cM.1]
      have r2 : υ.1 59 4 = nI k := (ur 59 4 (by decide) (by decide) (by decide) (by decide)).trans cM.2.1
      simp (disch := omega) only [r1, nI_add, ← hυ, r2, hnM.1, pk_sub]
theorem ag_feed (v : Int32) : Agr (f_T_feed v) (f_M_feed v) := by
  intro σ hR
  have hR0 := hR
  obtain ⟨n, K, E, P, B, F, W, D, m, hP, hT, hL, hC, hLe, hPi, hW, hS, h0⟩ := hR
  obtain ⟨t, ht, t1, t2, t3⟩ := id hT
  unfold f_T_feed f_M_feed
  simp (disch := omega) only [gupE, gltE, gllE, litE, litLE, bindE, ↓reduceIte, gsi_at, gsi_l2, gsl_at, gsl_i1, upd_at, updL_at, Nat.reduceEqDiff, gix_nI, nI_clamp, bI_0, bI_gzb, Bool.true_eq_false, Bool.false_eq_true, within_eq, Mwithin0]
  cases hv : inb v 256 with
  | false => exact ⟨_, σ, σ, rfl, rfl, hR0⟩
  | true =>
    obtain ⟨b, hb, rfl⟩ := inb_of hv (by decide)
    simp only [↓reduceIte, Bool.true_eq_false]
    unfold f_Pa_hear
    by_cases h : t < 120
    · have q1 : ¬ nI t = nI 120 := by rw [nI_eq (by omega) (by omega)]; omega
      have f1 : Fr (inT [2]) σ (gpi (gpi (gpi (gpi σ 28 t (nI b)) 27 3 (nI (t + 1))) 64 t (nI b)) 59 8 (nI (t + 1))) := ((((Fr.rf _ σ).pi rfl).pi rfl).pi rfl).pi rfl
      refine ⟨nI (t + 1), gpi (gpi σ 28 t (nI b)) 27 3 (nI (t + 1)), gpi (gpi (gpi (gpi σ 28 t (nI b)) 27 3 (nI (t + 1))) 64 t (nI b)) 59 8 (nI (t + 1)), ?_, ?_, n, K, E, P, B, F, W, D, m, kPeo f1 rfl hP, ⟨t + 1, by omega, ?_, ?_, fun i hi => ?_⟩, kLw f1 rfl hL, kChg f1 rfl hC, kLed f1 rfl hLe, kPic f1 rfl hPi, kWrd f1 rfl hW, kShv f1 rfl hS, k0 f1 rfl h0⟩
      · simp (disch := omega) only [gupE, gltE, gllE, litE, litLE, bindE, ↓reduceIte, gsi_at, gsi_l2, gsl_at, gsl_i1, upd_at, updL_at, Nat.reduceEqDiff, gix_nI, nI_clamp, bI_0, bI_gzb, Bool.true_eq_false, Bool.false_eq_true, t1, nI_ltI, h, nI_add]
      · simp (disch := omega) only [gupE, gltE, gllE, litE, litLE, bindE, ↓reduceIte, gsi_at, gsi_l2, gsl_at, gsl_i1, upd_at, updL_at, Nat.reduceEqDiff, gix_nI, nI_clamp, bI_0, bI_gzb, Bool.true_eq_false, Bool.false_eq_true, t2, q1, nI_add]
      · simp only [gsi_at, upd_at, Nat.reduceEqDiff, ↓reduceIte]
      · simp only [gsi_at, upd_at, Nat.reduceEqDiff, ↓reduceIte]
      · simp only [gsi_at, upd_at, Nat.reduceEqDiff, ↓reduceIte]
        by_cases e : i = t
        · simp only [e, ↓reduceIte]
          exact ⟨b, hb, rfl, rfl⟩
        · simp only [e, ↓reduceIte]
          exact t3 i (by omega)
    · have e : t = 120 := by omega
      subst e
      refine ⟨-nI 3, σ, σ, ?_, ?_, hR0⟩
      · simp (disch := omega) only [gupE, gltE, gllE, litE, litLE, bindE, ↓reduceIte, gsi_at, gsi_l2, gsl_at, gsl_i1, upd_at, updL_at, Nat.reduceEqDiff, gix_nI, nI_clamp, bI_0, bI_gzb, Bool.true_eq_false, Bool.false_eq_true, t1, nI_ltI, Nat.lt_irrefl]
      · simp (disch := omega) only [gupE, gltE, gllE, litE, litLE, bindE, ↓reduceIte, gsi_at, gsi_l2, gsl_at, gsl_i1, upd_at, updL_at, Nat.reduceEqDiff, gix_nI, nI_clamp, bI_0, bI_gzb, Bool.true_eq_false, Bool.false_eq_true, t2]
theorem ag_led (v : Int32) : ∀ σ, R σ → ∃ x, f_T_led v σ = some x ∧ f_M_led v σ = some x := by
  intro σ hR
  obtain ⟨n, K, E, P, B, F, W, D, m, hP, hT, hL, hC, hLe, hPi, hW, hS, h0⟩ := hR
  unfold f_T_led f_M_led
  simp (disch := omega) only [gupE, gltE, gllE, litE, litLE, bindE, ↓reduceIte, gsi_at, gsi_l2, gsl_at, gsl_i1, upd_at, updL_at, Nat.reduceEqDiff, gix_nI, nI_clamp, bI_0, bI_gzb, Bool.true_eq_false, Bool.false_eq_true, within_eq, Mwithin0]
  cases hv : inb v 5 with
  | false => exact ⟨_, rfl, rfl⟩
  | true =>
    obtain ⟨b, hb, rfl⟩ := inb_of hv (by decide)
    simp (disch := omega) only [gupE, gltE, gllE, litE, litLE, bindE, ↓reduceIte, gsi_at, gsi_l2, gsl_at, gsl_i1, upd_at, updL_at, Nat.reduceEqDiff, gix_nI, nI_clamp, bI_0, bI_gzb, Bool.true_eq_false, Bool.false_eq_true, hLe.1 b hb]
    exact ⟨_, rfl, rfl⟩
