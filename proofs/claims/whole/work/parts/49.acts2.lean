/-! pure: acts of words, on -/
theorem run_10 {n : Nat} {σ : gS} {b k i fr d : Nat} (h : Wst σ b k i) (hi : i < 700) (hf : fr < 8) (hd : d < 28) (x : Int32) (hw : ow fr 1 = 0) : f_Wo_run (n + 1 + 1 + 1) (nI fr) (nI 1) x (nI d) σ = some (fv b k x * nI 2, nts ([10] ++ fl k) σ) := by
  rw [run_at h hf (by omega) (by omega) x hw (by omega) (x6 := nI 10) (x8 := nI 4294967295) rfl (by decide)]
  simp (disch := omega) only [note_eq h, bindE, ↓reduceIte, nI_eq, Nat.reduceEqDiff]
  rw [run_f (h.nt 10 (by omega)) (by omega) h.1.2.1 (by omega)]
  rfl
theorem run_30 {n : Nat} {σ : gS} {b k i fr d : Nat} (h : Wst σ b k i) (hi : i < 600) (hf : fr < 8) (hd : d < 27) (x : Int32) (hw : ow fr 1 = 2) : f_Wo_run (n + 1 + 1 + 1 + 1) (nI fr) (nI 1) x (nI d) σ = some (-(fv b k x * nI 2), nts ([30, 10] ++ fl k) σ) := by
  rw [run_at h hf (by omega) (by omega) x hw (by omega) (x6 := nI 30) (x8 := nI 0) rfl rfl]
  simp (disch := omega) only [note_eq h, bindE, ↓reduceIte, nI_eq, Nat.reduceEqDiff]
  rw [run_10 (h.nt 30 (by omega)) (by omega) (by omega) (by omega) x rfl]
  rfl
theorem run_41 {n : Nat} {σ : gS} {b k i fr d : Nat} (h : Wst σ b k i) (hi : i < 500) (hf : fr < 8) (hd : d < 26) (x : Int32) (hw : ow fr 1 = 3) : f_Wo_run (n + 1 + 1 + 1 + 1 + 1) (nI fr) (nI 1) x (nI d) σ = some (-(fv b k (x + nI 1) * nI 2), nts ([41, 30, 10] ++ fl k) σ) := by
  rw [run_at h hf (by omega) (by omega) x hw (by omega) (x6 := nI 41) (x8 := nI 2) rfl rfl]
  simp (disch := omega) only [note_eq h, bindE, ↓reduceIte, nI_eq, Nat.reduceEqDiff]
  rw [run_30 (h.nt 41 (by omega)) (by omega) (by omega) (by omega) (x + nI 1) rfl]
  rfl
theorem run_s {n : Nat} {σ : gS} {b k i fr d : Nat} (h : Wst σ b k i) (hi : i < 500) (hf : fr < 8) (hd : d < 26) (x : Int32) : f_Wo_run (n + 1 + 1 + 1 + 1 + 1) (nI fr) (nI 1) x (nI d) σ = some (sv b k fr x, nts (sl k fr) σ) := by
  have : fr = 0 ∨ fr = 1 ∨ fr = 2 ∨ fr = 3 ∨ fr = 4 ∨ fr = 5 ∨ fr = 6 ∨ fr = 7 := by omega
  rcases this with rfl | rfl | rfl | rfl | rfl | rfl | rfl | rfl
  · exact run_10 h (by omega) (by omega) (by omega) x rfl
  · exact run_10 h (by omega) (by omega) (by omega) x rfl
  · exact run_30 h (by omega) (by omega) (by omega) x rfl
  · exact run_41 h (by omega) (by omega) (by omega) x rfl
  · exact run_10 h (by omega) (by omega) (by omega) x rfl
  · exact run_41 h (by omega) (by omega) (by omega) x rfl
  · exact run_10 h (by omega) (by omega) (by omega) x rfl
  · rw [run_at h hf (by omega) (by omega) x (show ow 7 1 = 7 from rfl) (by omega) (x6 := nI 80) (x8 := nI 4) rfl rfl]
    simp (disch := omega) only [note_eq h, bindE, ↓reduceIte, nI_eq, Nat.reduceEqDiff]
    have h1 := h.nt 80 (by omega)
    have hfl := fl_le k
    rw [run_10 h1 (by omega) (by omega) (by omega) x rfl]
    simp only [bindE]
    have h2 := h1.nts ([10] ++ fl k) (by rw [List.length_append]; show _ + (1 + _) < 1000; omega)
    rw [run_d h2 (by rw [List.length_append]; show _ + (1 + _) < 800; omega) h.1.2.1 (by omega)]
    show some (_, nts (dl k k) (nts ([10] ++ fl k) (nt 80 σ))) = some (_, nts ([80, 10] ++ fl k ++ dl k k) σ)
    rw [nts_app, nts_app, nts_app]
    rfl
theorem run_2 {n : Nat} {σ : gS} {b k i fr d : Nat} (h : Wst σ b k i) (hi : i < 400) (hf : fr < 8) (hd : d < 25) (x : Int32) (hw : ow fr 3 = 0) : f_Wo_run (n + 1 + 1 + 1 + 1 + 1 + 1) (nI fr) (nI 3) x (nI d) σ = some (sv b k k x - dv b k k (nI 1), nts ([2] ++ sl k k ++ dl k k) σ) := by
  rw [run_at h hf (by omega) (by omega) x hw (by omega) (x6 := nI 2) (x8 := nI 4294967295) rfl (by decide)]
  simp (disch := omega) only [note_eq h, bindE, ↓reduceIte, nI_eq, Nat.reduceEqDiff]
  have h1 := h.nt 2 (by omega)
  have hsl := sl_le k k
  rw [run_s h1 (by omega) h.1.2.1 (by omega) x]
  simp only [bindE]
  have h2 := h1.nts (sl k k) (by omega)
  rw [run_d h2 (by omega) h.1.2.1 (by omega)]
  show some (_, nts (dl k k) (nts (sl k k) (nt 2 σ))) = some (_, nts ([2] ++ sl k k ++ dl k k) σ)
  rw [nts_app, nts_app]
  rfl
theorem run_t {n : Nat} {σ : gS} {b k i fr d : Nat} (h : Wst σ b k i) (hi : i < 300) (hf : fr < 8) (hd : d < 24) (x : Int32) : f_Wo_run (n + 1 + 1 + 1 + 1 + 1 + 1 + 1) (nI fr) (nI 3) x (nI d) σ = some (tv b k fr x, nts (tl k fr) σ) := by
  have : fr = 0 ∨ fr = 1 ∨ fr = 2 ∨ fr = 3 ∨ fr = 4 ∨ fr = 5 ∨ fr = 6 ∨ fr = 7 := by omega
  rcases this with rfl | rfl | rfl | rfl | rfl | rfl | rfl | rfl
  · exact run_2 h (by omega) (by omega) (by omega) x rfl
  · exact run_2 h (by omega) (by omega) (by omega) x rfl
  · exact run_2 h (by omega) (by omega) (by omega) x rfl
  · exact run_2 h (by omega) (by omega) (by omega) x rfl
  · exact run_2 h (by omega) (by omega) (by omega) x rfl
  · rw [run_at h hf (by omega) (by omega) x (show ow 5 3 = 5 from rfl) (by omega) (x6 := nI 60) (x8 := nI 3) rfl rfl]
    simp (disch := omega) only [note_eq h, bindE, ↓reduceIte, nI_eq, Nat.reduceEqDiff]
    rw [run_2 (h.nt 60 (by omega)) (by omega) (by omega) (by omega) x rfl]
    rfl
  · exact run_2 h (by omega) (by omega) (by omega) x rfl
  · rw [run_at h hf (by omega) (by omega) x (show ow 7 3 = 7 from rfl) (by omega) (x6 := nI 81) (x8 := nI 4) rfl rfl]
    simp (disch := omega) only [note_eq h, bindE, ↓reduceIte, nI_eq, Nat.reduceEqDiff]
    rw [run_2 (h.nt 81 (by omega)) (by omega) (by omega) (by omega) x rfl]
    rfl
/-! the reference -/
theorem mfalls {n : Nat} {σ : gS} {b k i fr : Nat} (h : Mst σ b k i) (hi : i < 900) (hf : fr < 8) (x : Int32) : f_M_fallsAs (n + 1 + 1) (nI fr) x σ = some (fv b fr x, mts (fl fr) σ) := by
  have h35 : ∀ c, (mt c σ).1 59 35 = nI b := fun c => (h.mt c (by omega)).2.1
  have hh1 : ∀ (n : Nat) (τ : gS) (i : Nat), Mst τ b k i → i < 990 → f_M_fallsAs (n + 1) (nI 0) x τ = some (x + nI b, mt 1 τ) := by
    intro n τ i hτ hi
    have h35 : (mt 1 τ).1 59 35 = nI b := (hτ.mt 1 (by omega)).2.1
    show fo_M_fallsAs (fun v1 v2 σ => f_M_fallsAs n v1 v2 σ) (nI 0) x τ = _
    unfold fo_M_fallsAs
    simp (disch := omega) only [gupE, gltE, gllE, litE, litLE, bindE, ↓reduceIte, gsi_at, gsi_l2, gsl_at, gsl_i1, upd_at, updL_at, Nat.reduceEqDiff, gix_nI, nI_clamp, bI_0, bI_gzb, Bool.true_eq_false, Bool.false_eq_true, nI_eq, runs_eq hτ, h35]
  show fo_M_fallsAs (fun v1 v2 σ => f_M_fallsAs (n + 1) v1 v2 σ) (nI fr) x σ = _
  unfold fo_M_fallsAs f_M_fallsAs_j16
  have hc : fr = 0 ∨ fr = 1 ∨ fr = 2 ∨ fr = 3 ∨ fr = 4 ∨ fr = 5 ∨ fr = 6 ∨ fr = 7 := by omega
  rcases hc with rfl | rfl | rfl | rfl | rfl | rfl | rfl | rfl <;> simp (disch := omega) only [gupE, gltE, gllE, litE, litLE, bindE, ↓reduceIte, gsi_at, gsi_l2, gsl_at, gsl_i1, upd_at, updL_at, Nat.reduceEqDiff, gix_nI, nI_clamp, bI_0, bI_gzb, Bool.true_eq_false, Bool.false_eq_true, nI_eq, runs_eq h, hh1 _ _ _ (h.mt 20 (by omega)) (by omega), hh1 _ _ _ (h.mt 70 (by omega)) (by omega), h35] <;> rfl
theorem mden {n : Nat} {σ : gS} {b k i fr : Nat} (h : Mst σ b k i) (hi : i < 800) (hf : fr < 8) (x : Int32) : f_M_deniesAs (n + 1 + 1) (nI fr) x σ = some (dv b k fr x, mts (dl k fr) σ) := by
  have hk := h.1.2.1
  have h35 : ∀ c, (mt c σ).1 59 35 = nI b := fun c => (h.mt c (by omega)).2.1
  have hh1 : ∀ (n : Nat) (fr : Nat) (τ : gS) (i : Nat), fr < 3 → Mst τ b k i → i < 990 → f_M_deniesAs (n + 1) (nI fr) x τ = some (x ^^^ nI b, mt 11 τ) := by
    intro n fr τ i hf hτ hi
    have h35 : (mt 11 τ).1 59 35 = nI b := (hτ.mt 11 (by omega)).2.1
    show fo_M_deniesAs (fun v1 v2 σ => f_M_deniesAs n v1 v2 σ) (nI fr) x τ = _
    unfold fo_M_deniesAs
    have e3 : ¬ fr = 3 := by omega
    have e5 : ¬ fr = 5 := by omega
    have e4 : ¬ fr = 4 := by omega
    have e7 : ¬ fr = 7 := by omega
    simp (disch := omega) only [gupE, gltE, gllE, litE, litLE, bindE, ↓reduceIte, gsi_at, gsi_l2, gsl_at, gsl_i1, upd_at, updL_at, Nat.reduceEqDiff, gix_nI, nI_clamp, bI_0, bI_gzb, Bool.true_eq_false, Bool.false_eq_true, nI_eq, e3, e4, e5, e7, runs_eq hτ, h35]
  have g1 := (h.mt 50 (by omega)).mt 11 (by omega)
  have g34 : (mt 11 (mt 50 σ)).1 59 34 = nI k := g1.2.2.1
  have gf := mfalls (n := 3) g1 (by omega) hk (nI 2)
  show fo_M_deniesAs (fun v1 v2 σ => f_M_deniesAs (n + 1) v1 v2 σ) (nI fr) x σ = _
  unfold fo_M_deniesAs f_M_deniesAs_j10 f_M_deniesAs_j36
  have hc : fr = 0 ∨ fr = 1 ∨ fr = 2 ∨ fr = 3 ∨ fr = 4 ∨ fr = 5 ∨ fr = 6 ∨ fr = 7 := by omega
  rcases hc with rfl | rfl | rfl | rfl | rfl | rfl | rfl | rfl <;> simp (disch := omega) only [gupE, gltE, gllE, litE, litLE, bindE, ↓reduceIte, gsi_at, gsi_l2, gsl_at, gsl_i1, upd_at, updL_at, Nat.reduceEqDiff, gix_nI, nI_clamp, bI_0, bI_gzb, Bool.true_eq_false, Bool.false_eq_true, nI_eq, runs_eq h, hh1 _ 1 _ _ (by omega) (h.mt 50 (by omega)) (by omega), hh1 _ 2 _ _ (by omega) (h.mt 40 (by omega)) (by omega), h35, g34, gf] <;> rfl
theorem msay10 {n : Nat} {σ : gS} {b k i fr : Nat} (h : Mst σ b k i) (hi : i < 700) (hf : fr = 0 ∨ fr = 1 ∨ fr = 4 ∨ fr = 6) (x : Int32) : f_M_saysAs (n + 1) (nI fr) x σ = some (fv b k x * nI 2, mts ([10] ++ fl k) σ) := by
  have hk := h.1.2.1
  have g1 := h.mt 10 (by omega)
  have gf := mfalls (n := 3) g1 (by omega) hk x
  show fo_M_saysAs (fun v1 v2 σ => f_M_saysAs n v1 v2 σ) (nI fr) x σ = _
  unfold fo_M_saysAs
  have e3 : ¬ fr = 3 := by omega
  have e5 : ¬ fr = 5 := by omega
  have e2 : ¬ fr = 2 := by omega
  have e7 : ¬ fr = 7 := by omega
  simp (disch := omega) only [gupE, gltE, gllE, litE, litLE, bindE, ↓reduceIte, gsi_at, gsi_l2, gsl_at, gsl_i1, upd_at, updL_at, Nat.reduceEqDiff, gix_nI, nI_clamp, bI_0, bI_gzb, Bool.true_eq_false, Bool.false_eq_true, nI_eq, e3, e5, e2, e7, runs_eq h, g1.2.2.1, gf]
  rfl
theorem msay30 {n : Nat} {σ : gS} {b k i : Nat} (h : Mst σ b k i) (hi : i < 600) (x : Int32) : f_M_saysAs (n + 1 + 1) (nI 2) x σ = some (-(fv b k x * nI 2), mts ([30, 10] ++ fl k) σ) := by
  have g1 := h.mt 30 (by omega)
  have gf := msay10 (n := n) (fr := 0) g1 (by omega) (by omega) x
  show fo_M_saysAs (fun v1 v2 σ => f_M_saysAs (n + 1) v1 v2 σ) (nI 2) x σ = _
  unfold fo_M_saysAs
  simp (disch := omega) only [gupE, gltE, gllE, litE, litLE, bindE, ↓reduceIte, gsi_at, gsi_l2, gsl_at, gsl_i1, upd_at, updL_at, Nat.reduceEqDiff, gix_nI, nI_clamp, bI_0, bI_gzb, Bool.true_eq_false, Bool.false_eq_true, nI_eq, runs_eq h, gf]
  rfl
theorem msays {n : Nat} {σ : gS} {b k i fr : Nat} (h : Mst σ b k i) (hi : i < 500) (hf : fr < 8) (x : Int32) : f_M_saysAs (n + 1 + 1 + 1) (nI fr) x σ = some (sv b k fr x, mts (sl k fr) σ) := by
  have hk := h.1.2.1
  have hfl := fl_le k
  have hc : fr = 0 ∨ fr = 1 ∨ fr = 2 ∨ fr = 3 ∨ fr = 4 ∨ fr = 5 ∨ fr = 6 ∨ fr = 7 := by omega
  have h41 : ∀ fr, fr = 3 ∨ fr = 5 → f_M_saysAs (n + 1 + 1 + 1) (nI fr) x σ = some (-(fv b k (x + nI 1) * nI 2), mts ([41, 30, 10] ++ fl k) σ) := by
    intro fr hf
    have g1 := h.mt 41 (by omega)
    have gf := msay30 (n := n) g1 (by omega) (x + nI 1)
    show fo_M_saysAs (fun v1 v2 σ => f_M_saysAs (n + 1 + 1) v1 v2 σ) (nI fr) x σ = _
    unfold fo_M_saysAs f_M_saysAs_j10
    rcases hf with rfl | rfl
    · simp (disch := omega) only [gupE, gltE, gllE, litE, litLE, bindE, ↓reduceIte, gsi_at, gsi_l2, gsl_at, gsl_i1, upd_at, updL_at, Nat.reduceEqDiff, gix_nI, nI_clamp, bI_0, bI_gzb, Bool.true_eq_false, Bool.false_eq_true, nI_eq, runs_eq h, gf]
      rfl
    · simp (disch := omega) only [gupE, gltE, gllE, litE, litLE, bindE, ↓reduceIte, gsi_at, gsi_l2, gsl_at, gsl_i1, upd_at, updL_at, Nat.reduceEqDiff, gix_nI, nI_clamp, bI_0, bI_gzb, Bool.true_eq_false, Bool.false_eq_true, nI_eq, runs_eq h, gf]
      rfl
  rcases hc with rfl | rfl | rfl | rfl | rfl | rfl | rfl | rfl
  · exact msay10 h (by omega) (by omega) x
  · exact msay10 h (by omega) (by omega) x
  · exact msay30 h (by omega) x
  · exact h41 3 (by omega)
  · exact msay10 h (by omega) (by omega) x
  · exact h41 5 (by omega)
  · exact msay10 h (by omega) (by omega) x
  · have g1 := h.mt 80 (by omega)
    have gf := msay10 (n := n + 1) (fr := 4) g1 (by omega) (by omega) x
    have g2 := g1.mts ([10] ++ fl k) (by rw [List.length_append]; show _ + (1 + _) < 1000; omega)
    have gd := mden (n := 3) g2 (by rw [List.length_append]; show _ + (1 + _) < 800; omega) hk (nI 2)
    show fo_M_saysAs (fun v1 v2 σ => f_M_saysAs (n + 1 + 1) v1 v2 σ) (nI 7) x σ = _
    unfold fo_M_saysAs
    simp (disch := omega) only [gupE, gltE, gllE, litE, litLE, bindE, ↓reduceIte, gsi_at, gsi_l2, gsl_at, gsl_i1, upd_at, updL_at, Nat.reduceEqDiff, gix_nI, nI_clamp, bI_0, bI_gzb, Bool.true_eq_false, Bool.false_eq_true, nI_eq, runs_eq h, gf, g2.2.2.1, gd]
    show some (_, mts (dl k k) (mts ([10] ++ fl k) (mt 80 σ))) = some (_, mts ([80, 10] ++ fl k ++ dl k k) σ)
    rw [mts_app, mts_app, mts_app]
    rfl
theorem mtell2 {n : Nat} {σ : gS} {b k i fr : Nat} (h : Mst σ b k i) (hi : i < 400) (hf : fr ≠ 5 ∧ fr ≠ 7 ∧ fr < 8) (x : Int32) : f_M_tellsAs (n + 1) (nI fr) x σ = some (sv b k k x - dv b k k (nI 1), mts ([2] ++ sl k k ++ dl k k) σ) := by
  have hk := h.1.2.1
  have hsl := sl_le k k
  have g1 := h.mt 2 (by omega)
  have gf := msays (n := 2) g1 (by omega) hk x
  have g2 := g1.mts (sl k k) (by omega)
  have gd := mden (n := 3) g2 (by omega) hk (nI 1)
  show fo_M_tellsAs (fun v1 v2 σ => f_M_tellsAs n v1 v2 σ) (nI fr) x σ = _
  unfold fo_M_tellsAs
  simp (disch := omega) only [gupE, gltE, gllE, litE, litLE, bindE, ↓reduceIte, gsi_at, gsi_l2, gsl_at, gsl_i1, upd_at, updL_at, Nat.reduceEqDiff, gix_nI, nI_clamp, bI_0, bI_gzb, Bool.true_eq_false, Bool.false_eq_true, nI_eq, hf.1, hf.2.1, runs_eq h, g1.2.2.1, gf, g2.2.2.1, gd]
  show some (_, mts (dl k k) (mts (sl k k) (mt 2 σ))) = some (_, mts ([2] ++ sl k k ++ dl k k) σ)
  rw [mts_app, mts_app]
  rfl
theorem mtells {n : Nat} {σ : gS} {b k i fr : Nat} (h : Mst σ b k i) (hi : i < 300) (hf : fr < 8) (x : Int32) : f_M_tellsAs (n + 1 + 1) (nI fr) x σ = some (tv b k fr x, mts (tl k fr) σ) := by
  have hc : fr = 0 ∨ fr = 1 ∨ fr = 2 ∨ fr = 3 ∨ fr = 4 ∨ fr = 5 ∨ fr = 6 ∨ fr = 7 := by omega
  rcases hc with rfl | rfl | rfl | rfl | rfl | rfl | rfl | rfl
  · exact mtell2 h (by omega) (by omega) x
  · exact mtell2 h (by omega) (by omega) x
  · exact mtell2 h (by omega) (by omega) x
  · exact mtell2 h (by omega) (by omega) x
  · exact mtell2 h (by omega) (by omega) x
  · have g1 := h.mt 60 (by omega)
    have gf := mtell2 (n := n) (fr := 3) g1 (by omega) (by omega) x
    show fo_M_tellsAs (fun v1 v2 σ => f_M_tellsAs (n + 1) v1 v2 σ) (nI 5) x σ = _
    unfold fo_M_tellsAs
    simp (disch := omega) only [gupE, gltE, gllE, litE, litLE, bindE, ↓reduceIte, gsi_at, gsi_l2, gsl_at, gsl_i1, upd_at, updL_at, Nat.reduceEqDiff, gix_nI, nI_clamp, bI_0, bI_gzb, Bool.true_eq_false, Bool.false_eq_true, nI_eq, runs_eq h, gf]
    rfl
  · exact mtell2 h (by omega) (by omega) x
  · have g1 := h.mt 81 (by omega)
    have gf := mtell2 (n := n) (fr := 4) g1 (by omega) (by omega) x
    show fo_M_tellsAs (fun v1 v2 σ => f_M_tellsAs (n + 1) v1 v2 σ) (nI 7) x σ = _
    unfold fo_M_tellsAs
    simp (disch := omega) only [gupE, gltE, gllE, litE, litLE, bindE, ↓reduceIte, gsi_at, gsi_l2, gsl_at, gsl_i1, upd_at, updL_at, Nat.reduceEqDiff, gix_nI, nI_clamp, bI_0, bI_gzb, Bool.true_eq_false, Bool.false_eq_true, nI_eq, runs_eq h, gf]
    rfl
