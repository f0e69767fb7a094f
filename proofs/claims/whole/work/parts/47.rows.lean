/-! pure: put, element, taken, body, trace, count -/
theorem lcmp0 (v : Int64) : (lg_cmp v (lN 0) = nI 0) = (v = lN 0) := by
  unfold lg_cmp
  by_cases h : v > lN 0
  · rw [if_pos h]
    have : ¬ v = lN 0 := fun q => by
      subst q
      exact absurd h (by decide)
    simp [this]
    decide
  · rw [if_neg h]
    by_cases h2 : v = lN 0
    · rw [if_pos h2]
      simp [h2]
      decide
    · rw [if_neg h2]
      simp [h2]
      decide
theorem byte_rg (v : Int64) : -128 ≤ ((v.toInt32).toInt8.toInt32.toInt64).toInt ∧ ((v.toInt32).toInt8.toInt32.toInt64).toInt ≤ 127 := by
  rw [Int32.toInt_toInt64, Int8.toInt_toInt32]
  have h1 := Int8.toInt_lt (v.toInt32).toInt8
  have h2 := Int8.le_toInt (v.toInt32).toInt8
  omega
/-- what is put in, by its sort -/
def srt (s : Nat) (v : Int64) : Int64 := if s = 0 then ((v.toInt32).toInt8.toInt32).toInt64 else if s = 1 then ((v.toInt32).toInt16.toInt32).toInt64 else if s = 2 then (v.toInt32).toInt64 else if s = 3 then v else if v = lN 0 then lN 0 else lN 1
theorem kept_eq {σ : gS} {c s : Nat} (hs : s < 5) (h : σ.1 c 3 = nI s) (v : Int64) : f_Sh_kept c v σ = some (srt s v) := by
  unfold f_Sh_kept srt
  have : s = 0 ∨ s = 1 ∨ s = 2 ∨ s = 3 ∨ s = 4 := by omega
  rcases this with rfl | rfl | rfl | rfl | rfl <;> simp (disch := omega) only [gupE, gltE, gllE, litE, litLE, bindE, ↓reduceIte, gsi_at, gsi_l2, gsl_at, gsl_i1, upd_at, updL_at, Nat.reduceEqDiff, gix_nI, nI_clamp, bI_0, bI_gzb, Bool.true_eq_false, Bool.false_eq_true, h, nI_eq, lcmp0]
  split <;> rfl
theorem asSort_eq {s : Nat} (hs : s < 5) (v : Int64) : f_M_asSort (nI s) v = some (srt s v) := by
  unfold f_M_asSort srt
  have : s = 0 ∨ s = 1 ∨ s = 2 ∨ s = 3 ∨ s = 4 := by omega
  rcases this with rfl | rfl | rfl | rfl | rfl <;> simp (disch := omega) only [gupE, gltE, gllE, litE, litLE, bindE, ↓reduceIte, gsi_at, gsi_l2, gsl_at, gsl_i1, upd_at, updL_at, Nat.reduceEqDiff, gix_nI, nI_clamp, bI_0, bI_gzb, Bool.true_eq_false, Bool.false_eq_true, nI_eq, lcmp0]
  split <;> rfl
theorem nl0 : (nI 0 ≤ (-1 : Int32)) = False := by decide
theorem Mref_no {σ : gS} {d : Nat} (hd : d < 6) (h : σ.1 76 d = -1) (v2 : Int32) : f_M_refusal (nI d) v2 σ = some (-nI 11) := by
  unfold f_M_refusal
  have hv : inb (nI d) 6 = true := by
    rw [inb_nI (by omega)]
    exact decide_eq_true hd
  have : (nI 0 ≤ -nI 1) = False := by decide
  simp (disch := omega) only [gupE, gltE, gllE, litE, litLE, bindE, ↓reduceIte, gsi_at, gsi_l2, gsl_at, gsl_i1, upd_at, updL_at, Nat.reduceEqDiff, gix_nI, nI_clamp, bI_0, bI_gzb, Bool.true_eq_false, Bool.false_eq_true, isShelf_eq, hv, h, this]
theorem Mref_w {σ : gS} {d w : Nat} (hd : d < 6) (hw : w < 50) (h : σ.1 76 d = nI w) (v2 : Int32) : f_M_refusal (nI d) v2 σ = some (-nI 12) := by
  unfold f_M_refusal
  have hv : inb (nI d) 6 = true := by
    rw [inb_nI (by omega)]
    exact decide_eq_true hd
  have h1 : nI 0 ≤ nI w := nI_pos' (by omega)
  have h2 : ¬ 50 ≤ w := by omega
  simp (disch := omega) only [gupE, gltE, gllE, litE, litLE, bindE, ↓reduceIte, gsi_at, gsi_l2, gsl_at, gsl_i1, upd_at, updL_at, Nat.reduceEqDiff, gix_nI, nI_clamp, bI_0, bI_gzb, Bool.true_eq_false, Bool.false_eq_true, isShelf_eq, hv, h, h1, nI_leI, h2]
theorem Mref_r {σ : gS} {d s z : Nat} (hd : d < 6) (hs : s < 5) (hz : z ≤ 60) (h : σ.1 76 d = nI (50 + s)) (h7 : σ.1 77 d = nI z) (v2 : Int32) : f_M_refusal (nI d) v2 σ = some (if inb v2 z = true then nI 0 else -nI 13) := by
  unfold f_M_refusal
  have hv : inb (nI d) 6 = true := by
    rw [inb_nI (by omega)]
    exact decide_eq_true hd
  have h1 : nI 0 ≤ nI (50 + s) := nI_pos' (by omega)
  have h2 : 50 ≤ 50 + s := by omega
  simp (disch := omega) only [gupE, gltE, gllE, litE, litLE, bindE, ↓reduceIte, gsi_at, gsi_l2, gsl_at, gsl_i1, upd_at, updL_at, Nat.reduceEqDiff, gix_nI, nI_clamp, bI_0, bI_gzb, Bool.true_eq_false, Bool.false_eq_true, isShelf_eq, hv, h, h1, nI_leI, h2, h7, lt0_iff]
  by_cases q : v2.toInt < 0
  · have : inb v2 z = false := by
      unfold inb
      simp
      omega
    rw [if_pos q, this]
    rfl
  · obtain ⟨i, hi, rfl⟩ := nonneg_nI (v := v2) (by omega)
    rw [if_neg q, inb_nI (by omega)]
    simp (disch := omega) only [nI_leI]
    by_cases q2 : z ≤ i
    · rw [if_pos q2, decide_eq_false (by omega)]
      rfl
    · rw [if_neg q2, decide_eq_true (by omega)]
      rfl
theorem gpl_at (σ : gS) (c k : Nat) (x : Int64) (c' k' : Nat) : (gpl σ c k x).2 c' k' = if c' = c ∧ k' = k then x else σ.2 c' k' := by
  show (gsl σ c (vp_updL (σ.2 c) k x)).2 c' k' = _
  rw [gsl_at, updL_at]
  by_cases h : c' = c
  · subst h
    by_cases h2 : k' = k
    · simp [h2]
    · simp [h2]
  · simp [h]
theorem ag_put (v1 v2 : Int32) (v : Int64) : Agr (f_T_put v1 v2 v) (f_M_put v1 v2 v) := by
  intro σ hR
  have hR0 := hR
  obtain ⟨n, K, E, P, B, F, W, D, m, hP, hT, hL, hC, hLe, hPi, hW, hS, h0⟩ := hR
  unfold f_T_put f_M_put f_M_put_j37
  cases hv : inb v1 6 with
  | false =>
    refine ⟨-nI 1, σ, σ, ?_, ?_, hR0⟩
    · simp (disch := omega) only [gupE, gltE, gllE, litE, litLE, bindE, ↓reduceIte, gsi_at, gsi_l2, gsl_at, gsl_i1, upd_at, updL_at, Nat.reduceEqDiff, gix_nI, nI_clamp, bI_0, bI_gzb, Bool.true_eq_false, Bool.false_eq_true, within_eq, hv]
    · unfold f_M_refusal
      have : ¬ -nI 1 = nI 0 := by decide
      simp (disch := omega) only [gupE, gltE, gllE, litE, litLE, bindE, ↓reduceIte, gsi_at, gsi_l2, gsl_at, gsl_i1, upd_at, updL_at, Nat.reduceEqDiff, gix_nI, nI_clamp, bI_0, bI_gzb, Bool.true_eq_false, Bool.false_eq_true, isShelf_eq, hv, this]
  | true =>
    obtain ⟨d, hd, rfl⟩ := inb_of hv (by omega)
    rcases id (hS d hd) with ⟨s1, s2⟩ | ⟨w, hw, s1, s2, s3⟩ | ⟨s, z, ⟨hs, hz⟩, ⟨s1, s2, s3⟩, ⟨s4, s5⟩, s6⟩
    · refine ⟨-nI 11, σ, σ, ?_, ?_, hR0⟩
      · unfold f_Sh_refusal
        have : ¬ nI 0 = nI 2 := by decide
        simp (disch := omega) only [gupE, gltE, gllE, litE, litLE, bindE, ↓reduceIte, gsi_at, gsi_l2, gsl_at, gsl_i1, upd_at, updL_at, Nat.reduceEqDiff, gix_nI, nI_clamp, bI_0, bI_gzb, Bool.true_eq_false, Bool.false_eq_true, within_eq, hv, gshc_nI hd, s1, this]
      · have : ¬ -nI 11 = nI 0 := by decide
        simp (disch := omega) only [gupE, gltE, gllE, litE, litLE, bindE, ↓reduceIte, gsi_at, gsi_l2, gsl_at, gsl_i1, upd_at, updL_at, Nat.reduceEqDiff, gix_nI, nI_clamp, bI_0, bI_gzb, Bool.true_eq_false, Bool.false_eq_true, Mref_no hd s2, this]
    · have hm := hW.1.1
      refine ⟨-nI 12, σ, σ, ?_, ?_, hR0⟩
      · unfold f_Sh_refusal
        have : ¬ nI 1 = nI 2 := by decide
        have h2 : ¬ nI 1 = nI 0 := by decide
        simp (disch := omega) only [gupE, gltE, gllE, litE, litLE, bindE, ↓reduceIte, gsi_at, gsi_l2, gsl_at, gsl_i1, upd_at, updL_at, Nat.reduceEqDiff, gix_nI, nI_clamp, bI_0, bI_gzb, Bool.true_eq_false, Bool.false_eq_true, within_eq, hv, gshc_nI hd, s1, this, h2]
      · have : ¬ -nI 12 = nI 0 := by decide
        simp (disch := omega) only [gupE, gltE, gllE, litE, litLE, bindE, ↓reduceIte, gsi_at, gsi_l2, gsl_at, gsl_i1, upd_at, updL_at, Nat.reduceEqDiff, gix_nI, nI_clamp, bI_0, bI_gzb, Bool.true_eq_false, Bool.false_eq_true, Mref_w hd (show w < 50 by omega) s3, this]
    · cases hi : inb v2 z with
      | false =>
        refine ⟨-nI 13, σ, σ, ?_, ?_, hR0⟩
        · simp (disch := omega) only [gupE, gltE, gllE, litE, litLE, bindE, ↓reduceIte, gsi_at, gsi_l2, gsl_at, gsl_i1, upd_at, updL_at, Nat.reduceEqDiff, gix_nI, nI_clamp, bI_0, bI_gzb, Bool.true_eq_false, Bool.false_eq_true, within_eq, hv, gshc_nI hd, s1, has_gen s3 hz, hasb1, hi]
        · have : ¬ -nI 13 = nI 0 := by decide
          simp (disch := omega) only [gupE, gltE, gllE, litE, litLE, bindE, ↓reduceIte, gsi_at, gsi_l2, gsl_at, gsl_i1, upd_at, updL_at, Nat.reduceEqDiff, gix_nI, nI_clamp, bI_0, bI_gzb, Bool.true_eq_false, Bool.false_eq_true, Mref_r hd hs hz s4 s5, hi, this]
      | true =>
        obtain ⟨i, hi2, rfl⟩ := inb_of hi (by omega)
        refine ⟨nI 1, gpl σ (48 + 2 * d) i (srt s v), gpl (gpl σ (48 + 2 * d) i (srt s v)) 78 (60 * d + i) (srt s v), ?_, ?_, hR0.shv ?_ fun m' hW' hS' => ?_⟩
        · have e : 47 + 2 * d + 1 = 48 + 2 * d := by omega
          simp (disch := omega) only [gupE, gltE, gllE, litE, litLE, bindE, ↓reduceIte, gsi_at, gsi_l2, gsl_at, gsl_i1, upd_at, updL_at, Nat.reduceEqDiff, gix_nI, nI_clamp, bI_0, bI_gzb, Bool.true_eq_false, Bool.false_eq_true, within_eq, hv, gshc_nI hd, s1, has_gen s3 hz, hasb1, hi, kept_eq hs s2, e]
        · have r := Mref_r (σ := gpl σ (48 + 2 * d) i (srt s v)) hd hs hz s4 s5 (nI i)
          have e1 : (gpl σ (48 + 2 * d) i (srt s v)).1 76 d = nI (50 + s) := s4
          have e2 : 50 + s - 50 = s := by omega
          simp (disch := omega) only [gupE, gltE, gllE, litE, litLE, bindE, ↓reduceIte, gsi_at, gsi_l2, gsl_at, gsl_i1, upd_at, updL_at, Nat.reduceEqDiff, gix_nI, nI_clamp, bI_0, bI_gzb, Bool.true_eq_false, Bool.false_eq_true, r, hi, s4, pk_sub, e2, asSort_eq hs, i_eq32, nI_add]
        · exact ((Fr.rf _ σ).pl (inS48 hd i)).pl (inS rfl)
        · have r2 : ∀ c k, (gpl (gpl σ (48 + 2 * d) i (srt s v)) 78 (60 * d + i) (srt s v)).2 c k = if c = 78 ∧ k = 60 * d + i then srt s v else if c = 48 + 2 * d ∧ k = i then srt s v else σ.2 c k := fun c k => by
            rw [gpl_at, gpl_at]
          refine hS'.upd (d := d) ?_ fun e he hne => ⟨fun k => rfl, rfl, rfl, fun k => ?_, fun k hk => ?_⟩
          · right
            right
            refine ⟨s, z, ⟨hs, hz⟩, ⟨s1, s2, s3⟩, ⟨s4, s5⟩, fun j hj => ?_⟩
            have h0 := s6 j hj
            rw [r2, r2, if_neg (by omega), if_neg (show ¬ (78 = 48 + 2 * d ∧ 60 * d + j = i) by omega)]
            by_cases q : j = i
            · subst q
              rw [if_pos ⟨rfl, rfl⟩, if_pos ⟨rfl, rfl⟩]
              refine ⟨rfl, fun q => ?_⟩
              subst q
              exact byte_rg v
            · rw [if_neg (by omega), if_neg (by omega)]
              exact h0
          · rw [r2, if_neg (by omega), if_neg (by omega)]
          · rw [r2, if_neg (by omega), if_neg (by omega)]
/-- both answer alike, and nothing changes -/
def AgrL (fT fM : gS → Option Int64) : Prop := ∀ σ, R σ → ∃ x, fT σ = some x ∧ fM σ = some x
def AgrI (fT fM : gS → Option Int32) : Prop := ∀ σ, R σ → ∃ x, fT σ = some x ∧ fM σ = some x
theorem ag_element (v1 v2 : Int32) : AgrL (f_T_element v1 v2) (f_M_element v1 v2) := by
  intro σ hR
  obtain ⟨n, K, E, P, B, F, W, D, m, hP, hT, hL, hC, hLe, hPi, hW, hS, h0⟩ := hR
  unfold f_T_element f_M_element
  cases hv : inb v1 6 with
  | false =>
    refine ⟨-lN 9223372036854775808, ?_, ?_⟩
    · simp (disch := omega) only [gupE, gltE, gllE, litE, litLE, bindE, ↓reduceIte, gsi_at, gsi_l2, gsl_at, gsl_i1, upd_at, updL_at, Nat.reduceEqDiff, gix_nI, nI_clamp, bI_0, bI_gzb, Bool.true_eq_false, Bool.false_eq_true, within_eq, hv]
    · unfold f_M_refusal
      have : ¬ -nI 1 = nI 0 := by decide
      simp (disch := omega) only [gupE, gltE, gllE, litE, litLE, bindE, ↓reduceIte, gsi_at, gsi_l2, gsl_at, gsl_i1, upd_at, updL_at, Nat.reduceEqDiff, gix_nI, nI_clamp, bI_0, bI_gzb, Bool.true_eq_false, Bool.false_eq_true, isShelf_eq, hv, this]
  | true =>
    obtain ⟨d, hd, rfl⟩ := inb_of hv (by omega)
    rcases hS d hd with ⟨s1, s2⟩ | ⟨w, hw, s1, s2, s3⟩ | ⟨s, z, ⟨hs, hz⟩, ⟨s1, s2, s3⟩, ⟨s4, s5⟩, s6⟩
    · refine ⟨-lN 9223372036854775808, ?_, ?_⟩
      · have : ¬ nI 0 = nI 2 := by decide
        simp (disch := omega) only [gupE, gltE, gllE, litE, litLE, bindE, ↓reduceIte, gsi_at, gsi_l2, gsl_at, gsl_i1, upd_at, updL_at, Nat.reduceEqDiff, gix_nI, nI_clamp, bI_0, bI_gzb, Bool.true_eq_false, Bool.false_eq_true, within_eq, hv, gshc_nI hd, s1, this]
      · have : ¬ -nI 11 = nI 0 := by decide
        simp (disch := omega) only [gupE, gltE, gllE, litE, litLE, bindE, ↓reduceIte, gsi_at, gsi_l2, gsl_at, gsl_i1, upd_at, updL_at, Nat.reduceEqDiff, gix_nI, nI_clamp, bI_0, bI_gzb, Bool.true_eq_false, Bool.false_eq_true, Mref_no hd s2, this]
    · have hm := hW.1.1
      refine ⟨-lN 9223372036854775808, ?_, ?_⟩
      · have : ¬ nI 1 = nI 2 := by decide
        simp (disch := omega) only [gupE, gltE, gllE, litE, litLE, bindE, ↓reduceIte, gsi_at, gsi_l2, gsl_at, gsl_i1, upd_at, updL_at, Nat.reduceEqDiff, gix_nI, nI_clamp, bI_0, bI_gzb, Bool.true_eq_false, Bool.false_eq_true, within_eq, hv, gshc_nI hd, s1, this]
      · have : ¬ -nI 12 = nI 0 := by decide
        simp (disch := omega) only [gupE, gltE, gllE, litE, litLE, bindE, ↓reduceIte, gsi_at, gsi_l2, gsl_at, gsl_i1, upd_at, updL_at, Nat.reduceEqDiff, gix_nI, nI_clamp, bI_0, bI_gzb, Bool.true_eq_false, Bool.false_eq_true, Mref_w hd (show w < 50 by omega) s3, this]
    · cases hi : inb v2 z with
      | false =>
        refine ⟨-lN 9223372036854775808, ?_, ?_⟩
        · simp (disch := omega) only [gupE, gltE, gllE, litE, litLE, bindE, ↓reduceIte, gsi_at, gsi_l2, gsl_at, gsl_i1, upd_at, updL_at, Nat.reduceEqDiff, gix_nI, nI_clamp, bI_0, bI_gzb, Bool.true_eq_false, Bool.false_eq_true, within_eq, hv, gshc_nI hd, s1, has_gen s3 hz, hasb1, hi]
        · have : ¬ -nI 13 = nI 0 := by decide
          simp (disch := omega) only [gupE, gltE, gllE, litE, litLE, bindE, ↓reduceIte, gsi_at, gsi_l2, gsl_at, gsl_i1, upd_at, updL_at, Nat.reduceEqDiff, gix_nI, nI_clamp, bI_0, bI_gzb, Bool.true_eq_false, Bool.false_eq_true, Mref_r hd hs hz s4 s5, hi, this]
      | true =>
        obtain ⟨i, hi2, rfl⟩ := inb_of hi (by omega)
        refine ⟨σ.2 78 (60 * d + i), ?_, ?_⟩
        · have e : 47 + 2 * d + 1 = 48 + 2 * d := by omega
          simp (disch := omega) only [gupE, gltE, gllE, litE, litLE, bindE, ↓reduceIte, gsi_at, gsi_l2, gsl_at, gsl_i1, upd_at, updL_at, Nat.reduceEqDiff, gix_nI, nI_clamp, bI_0, bI_gzb, Bool.true_eq_false, Bool.false_eq_true, within_eq, hv, gshc_nI hd, s1, has_gen s3 hz, hasb1, hi, e]
          rw [(s6 i (by omega)).1]
        · simp (disch := omega) only [gupE, gltE, gllE, litE, litLE, bindE, ↓reduceIte, gsi_at, gsi_l2, gsl_at, gsl_i1, upd_at, updL_at, Nat.reduceEqDiff, gix_nI, nI_clamp, bI_0, bI_gzb, Bool.true_eq_false, Bool.false_eq_true, Mref_r hd hs hz s4 s5, hi, i_eq32, nI_add]
theorem ag_trace (v : Int32) : AgrI (f_T_trace v) (f_M_trace v) := by
  intro σ hR
  obtain ⟨n, K, E, P, B, F, W, D, m, hP, hT, hL, hC, hLe, hPi, hW, hS, h0⟩ := hR
  obtain ⟨-, -, r, hr, w3, w4, w5⟩ := hW
  unfold f_T_trace f_M_trace
  simp (disch := omega) only [gupE, gltE, gllE, litE, litLE, bindE, ↓reduceIte, gsi_at, gsi_l2, gsl_at, gsl_i1, upd_at, updL_at, Nat.reduceEqDiff, gix_nI, nI_clamp, bI_0, bI_gzb, Bool.true_eq_false, Bool.false_eq_true, w3, w4, gmin_nI, within_eq, lt0_iff]
  by_cases h0 : v.toInt < 0
  · have : inb v (min r 24) = false := by
      unfold inb
      simp
      omega
    simp only [h0, this, ↓reduceIte]
    exact ⟨_, rfl, rfl⟩
  · obtain ⟨i, hi, rfl⟩ := nonneg_nI (v := v) (by omega)
    simp (disch := omega) only [inb_nI, h0, ↓reduceIte, nI_leI]
    by_cases h1 : i < min r 24
    · have h2 : ¬ r ≤ i := by omega
      have h3 : ¬ 24 ≤ i := by omega
      simp (disch := omega) only [h1, h2, h3, decide_true, ↓reduceIte, Bool.true_eq_false, gix_nI, nI_clamp, w5]
      exact ⟨_, rfl, rfl⟩
    · simp only [h1, decide_false, ↓reduceIte]
      by_cases h2 : r ≤ i
      · simp only [h2, ↓reduceIte]
        exact ⟨_, rfl, rfl⟩
      · have h3 : 24 ≤ i := by omega
        simp only [h2, h3, ↓reduceIte]
        exact ⟨_, rfl, rfl⟩
theorem ag_count (v : Int32) : AgrI (f_T_count v) (f_M_count v) := by
  intro σ hR
  obtain ⟨n, K, E, P, B, F, W, D, m, hP, hT, hL, hC, hLe, hPi, hW, hS, h0⟩ := hR
  obtain ⟨⟨w0, w1, w2⟩, -, r, hr, w3, w4, w5⟩ := hW
  obtain ⟨hn, p1, p2⟩ := hP.1
  obtain ⟨tm, -, t1, t2, -⟩ := hT
  obtain ⟨-, ⟨h, l1, l2, l3⟩, -⟩ := hLe
  obtain ⟨dn, kn, -, ⟨c1, -, c3, -⟩, -⟩ := hC
  have hh : h < 1024 := Nat.lt_of_lt_of_le l1 (Nat.pow_le_pow_right (by decide) hn : 2 ^ n ≤ 2 ^ 10)
  unfold f_T_count f_M_count
  simp (disch := omega) only [gupE, gltE, gllE, litE, litLE, bindE, ↓reduceIte, gsi_at, gsi_l2, gsl_at, gsl_i1, upd_at, updL_at, Nat.reduceEqDiff, gix_nI, nI_clamp, bI_0, bI_gzb, Bool.true_eq_false, Bool.false_eq_true, p1, p2, l2, l3, bc, MbitsOf, cnt10 hh, t1, t2, c1, c3, w1, w2, w3, w4]
  simp only [← apply_ite some]
  exact ⟨_, rfl, rfl⟩
theorem ag_body (v : Int32) : Agr (f_T_body v) (f_M_body v) := by
  intro σ hR
  have hR0 := hR
  obtain ⟨n, K, E, P, B, F, W, D, m, hP, hT, hL, hC, hLe, hPi, hW, hS, h0⟩ := hR
  obtain ⟨⟨hm, w1, w2⟩, w3, r, hr, w4, w5, w6⟩ := id hW
  unfold f_T_body f_M_body
  cases hv : inb v 8 with
  | false =>
    refine ⟨-nI 1, σ, σ, ?_, ?_, hR0⟩
    · simp (disch := omega) only [gupE, gltE, gllE, litE, litLE, bindE, ↓reduceIte, gsi_at, gsi_l2, gsl_at, gsl_i1, upd_at, updL_at, Nat.reduceEqDiff, gix_nI, nI_clamp, bI_0, bI_gzb, Bool.true_eq_false, Bool.false_eq_true, within_eq, hv]
    · simp (disch := omega) only [gupE, gltE, gllE, litE, litLE, bindE, ↓reduceIte, gsi_at, gsi_l2, gsl_at, gsl_i1, upd_at, updL_at, Nat.reduceEqDiff, gix_nI, nI_clamp, bI_0, bI_gzb, Bool.true_eq_false, Bool.false_eq_true, Mwithin0, hv]
  | true =>
    obtain ⟨k, hk, rfl⟩ := inb_of hv (by omega)
    by_cases h50 : m < 50
    · have h51 : ¬ m = 50 := by omega
      obtain ⟨τ, hτ⟩ : ∃ τ, τ = gpi (gpi σ 44 m (nI k)) 43 2 (nI (m + 1)) := ⟨_, rfl⟩
      obtain ⟨υ, hυ⟩ : ∃ υ, υ = gpi (gpi τ 74 m (nI k)) 59 30 (nI (m + 1)) := ⟨_, rfl⟩
      have r1 : ∀ c j, υ.1 c j = if c = 59 ∧ j = 30 then nI (m + 1) else if c = 74 ∧ j = m then nI k else if c = 43 ∧ j = 2 then nI (m + 1) else if c = 44 ∧ j = m then nI k else σ.1 c j := fun c j => by
        rw [hυ, hτ, gpi_at, gpi_at, gpi_at, gpi_at]
      have e30 : τ.1 59 30 = nI m := by
        rw [hτ, gpi_at, gpi_at, if_neg (by omega), if_neg (by omega)]
        exact w2
      have hF : Fr (inT [7]) σ υ := by
        rw [hυ, hτ]
        exact ((((Fr.rf _ σ).pi rfl).pi rfl).pi rfl).pi rfl
      refine ⟨nI m, τ, υ, ?_, ?_, n, K, E, P, B, F, W, D, m + 1, kPeo hF rfl hP, kTap hF rfl hT, kLw hF rfl hL, kChg hF rfl hC, kLed hF rfl hLe, kPic hF rfl hPi, ⟨⟨by omega, ?_, ?_⟩, fun i hi => ?_, r, hr, ?_, ?_, fun i h1 h2 => ?_⟩, ?_, k0 hF rfl h0⟩
      · unfold f_Wo_make
        have q : m + 1 - 1 = m := by omega
        simp (disch := omega) only [gupE, gltE, gllE, litE, litLE, bindE, ↓reduceIte, gsi_at, gsi_l2, gsl_at, gsl_i1, upd_at, updL_at, Nat.reduceEqDiff, gix_nI, nI_clamp, bI_0, bI_gzb, Bool.true_eq_false, Bool.false_eq_true, within_eq, hv, w1, nI_ltI, h50, nI_add, pk_sub, q, hτ]
      · have q : m + 1 - 1 = m := by omega
        simp (disch := omega) only [gupE, gltE, gllE, litE, litLE, bindE, ↓reduceIte, gsi_at, gsi_l2, gsl_at, gsl_i1, upd_at, updL_at, Nat.reduceEqDiff, gix_nI, nI_clamp, bI_0, bI_gzb, Bool.true_eq_false, Bool.false_eq_true, Mwithin0, hv, e30, nI_eq, h51, nI_add, pk_sub, q, hυ]
      · rw [r1, if_neg (by omega), if_neg (by omega), if_pos ⟨rfl, rfl⟩]
      · rw [r1, if_pos ⟨rfl, rfl⟩]
      · by_cases q : i = m
        · subst q
          refine ⟨k, hk, ?_, ?_⟩
          · rw [r1, if_neg (by omega), if_neg (by omega), if_neg (by omega), if_pos ⟨rfl, rfl⟩]
          · rw [r1, if_neg (by omega), if_pos ⟨rfl, rfl⟩]
        · obtain ⟨k', q1, q2, q3⟩ := w3 i (by omega)
          refine ⟨k', q1, ?_, ?_⟩
          · rw [r1, if_neg (by omega), if_neg (by omega), if_neg (by omega), if_neg (by omega)]
            exact q2
          · rw [r1, if_neg (by omega), if_neg (by omega), if_neg (by omega), if_neg (by omega)]
            exact q3
      · rw [r1, if_neg (by omega), if_neg (by omega), if_neg (by omega), if_neg (by omega)]
        exact w4
      · rw [r1, if_neg (by omega), if_neg (by omega), if_neg (by omega), if_neg (by omega)]
        exact w5
      · rw [r1, if_neg (by omega), if_neg (by omega), if_neg (by omega), if_neg (by omega), r1, if_neg (by omega), if_neg (by omega), if_neg (by omega), if_neg (by omega)]
        exact w6 i h1 h2
      · have h8 := kShv hF rfl hS
        intro d hd
        rcases h8 d hd with q | ⟨w, q1, q2⟩ | q
        · exact Or.inl q
        · exact Or.inr (Or.inl ⟨w, by omega, q2⟩)
        · exact Or.inr (Or.inr q)
    · have h51 : m = 50 := by omega
      refine ⟨-nI 3, σ, σ, ?_, ?_, hR0⟩
      · unfold f_Wo_make
        simp (disch := omega) only [gupE, gltE, gllE, litE, litLE, bindE, ↓reduceIte, gsi_at, gsi_l2, gsl_at, gsl_i1, upd_at, updL_at, Nat.reduceEqDiff, gix_nI, nI_clamp, bI_0, bI_gzb, Bool.true_eq_false, Bool.false_eq_true, within_eq, hv, w1, nI_ltI, h50]
      · simp (disch := omega) only [gupE, gltE, gllE, litE, litLE, bindE, ↓reduceIte, gsi_at, gsi_l2, gsl_at, gsl_i1, upd_at, updL_at, Nat.reduceEqDiff, gix_nI, nI_clamp, bI_0, bI_gzb, Bool.true_eq_false, Bool.false_eq_true, Mwithin0, hv, w2, h51]
