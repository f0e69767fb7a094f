/-! pure: days gathered again -/
def pkd (s : Nat → Nat) : Nat → Nat
  | 0 => 0
  | k + 1 => pkd s k + s k * 2 ^ (3 * k)
theorem pkd_lt {s : Nat → Nat} : ∀ k, (∀ j, j < k → s j < 8) → pkd s k < 2 ^ (3 * k)
  | 0, _ => by
    show 0 < 1
    decide
  | k + 1, h => by
    have ih := pkd_lt k fun j hj => h j (by omega)
    have h1 := h k (by omega)
    have e : 2 ^ (3 * (k + 1)) = 2 ^ (3 * k) * 8 := by
      rw [show 3 * (k + 1) = 3 * k + 3 by omega, Nat.pow_add]
    show pkd s k + s k * 2 ^ (3 * k) < _
    rw [e]
    have h2 : s k * 2 ^ (3 * k) ≤ 7 * 2 ^ (3 * k) := Nat.mul_le_mul_right _ (by omega)
    omega
theorem pkd_or {s : Nat → Nat} {k : Nat} (h : ∀ j, j < k → s j < 8) : pkd s k ||| s k * 2 ^ (3 * k) = pkd s (k + 1) := by
  have := Nat.two_pow_add_eq_or_of_lt (pkd_lt k h) (s k)
  show _ = pkd s k + s k * 2 ^ (3 * k)
  rw [Nat.or_comm, Nat.mul_comm, ← this]
  omega
theorem pkd_at {s : Nat → Nat} {j : Nat} : ∀ k, (∀ j, j < k → s j < 8) → j < k → pkd s k / 2 ^ (3 * j) % 8 = s j
  | 0, _, hj => absurd hj (Nat.not_lt_zero j)
  | k + 1, h, hj => by
    show (pkd s k + s k * 2 ^ (3 * k)) / 2 ^ (3 * j) % 8 = s j
    by_cases e : j = k
    · subst e
      rw [Nat.add_mul_div_right _ _ (Nat.two_pow_pos _), Nat.div_eq_of_lt (pkd_lt j fun i hi => h i (by omega)), Nat.zero_add]
      exact Nat.mod_eq_of_lt (h j (by omega))
    · have ih := pkd_at (j := j) k (fun i hi => h i (by omega)) (by omega)
      have e2 : s k * 2 ^ (3 * k) = s k * 2 ^ (3 * (k - j - 1)) * 8 * 2 ^ (3 * j) := by
        rw [Nat.mul_assoc, Nat.mul_assoc]
        congr 1
        rw [show (8 : Nat) = 2 ^ 3 from rfl, ← Nat.pow_add, ← Nat.pow_add]
        congr 1
        omega
      rw [e2, Nat.add_mul_div_right _ _ (Nat.two_pow_pos _), Nat.add_mul_mod_self_right]
      exact ih
theorem pkd_cg {s s2 : Nat → Nat} : ∀ k, (∀ j, j < k → s j = s2 j) → pkd s k = pkd s2 k
  | 0, _ => rfl
  | k + 1, h => by
    show pkd s k + s k * _ = pkd s2 k + s2 k * _
    rw [pkd_cg k fun j hj => h j (by omega), h k (by omega)]
theorem pkd30 {s : Nat → Nat} {k : Nat} (hk : k ≤ 10) (h : ∀ j, j < k → s j < 8) : pkd s k < 1073741824 := by
  have h1 := pkd_lt k h
  have h2 : 2 ^ (3 * k) ≤ 2 ^ 30 := Nat.pow_le_pow_right (by decide) (by omega)
  have h3 : (2 : Nat) ^ 30 = 1073741824 := by decide
  omega
theorem Cpacked {σ : gS} {n W : Nat} {s K : Nat → Nat} (hM : CS 11 σ n s K W) (hR : Rg n s K W) : f_Cr_packed 11 σ = some (nI (pkd s n)) := by
  have hn := hR.1
  have e2 := hM.1.1
  have m3 : ∀ k, nI 3 * nI k = nI (3 * k) := fun k => pk_mul 3 k
  unfold f_Cr_packed
  simp only [litE]
  refine loopG (fun fu i a => f_Cr_packed_L4 11 σ fu (nI a) (nI i)) (fun o => o = some (nI (pkd s n))) (fun i a => a = pkd s i) n 0 0 (by omega) (by omega) rfl ?_ ?_
  · intro fu i a hi hp
    left
    refine ⟨_, ?_, rfl⟩
    have hs := hR.sk hi
    have h1 : ¬ n ≤ i := by omega
    have es := (hM.2 i hi).1
    have h8 : ∀ j, j < i → s j < 8 := fun j hj => by have := hR.sk (j := j) (by omega); omega
    rw [← pkd_or h8, ← hp]
    have hsh : nI (s i) <<< (nI (3 * i) &&& nI 31) = nI (s i * 2 ^ (3 * i)) := by
      refine shA (by omega) ?_
      have h2 : 2 ^ (3 * i) ≤ 2 ^ 27 := Nat.pow_le_pow_right (by decide) (by omega)
      have h3 : s i * 2 ^ (3 * i) ≤ 7 * 2 ^ 27 := Nat.mul_le_mul (by omega) h2
      have h4 : 7 * (2 : Nat) ^ 27 = 939524096 := by decide
      omega
    simp (maxSteps := 2000000) (disch := omega) only [f_Cr_packed_L4, gupE, gltE, gllE, litE, litLE, bindE, ↓reduceIte, gsi_at, gsi_l2, gsl_at, gsl_i1, upd_at, updL_at, Nat.reduceEqDiff, gix_nI, nI_clamp, bI_0, bI_gzb, Bool.true_eq_false, Bool.false_eq_true, e2, nI_leI, h1, es, m3, hsh, nI_or, nI_add]
  · intro fu a hp
    subst hp
    have h2 : nI n ≤ nI n := Int32.le_refl _
    simp (maxSteps := 2000000) (disch := omega) only [f_Cr_packed_L4, gupE, gltE, gllE, litE, litLE, bindE, ↓reduceIte, gsi_at, gsi_l2, gsl_at, gsl_i1, upd_at, updL_at, Nat.reduceEqDiff, gix_nI, nI_clamp, bI_0, bI_gzb, Bool.true_eq_false, Bool.false_eq_true, e2, h2]
theorem Cunpack {σ : gS} {n : Nat} {s : Nat → Nat} (h2 : σ.1 11 2 = nI n) (hn : n ≤ 10) (h8 : ∀ j, j < n → s j < 8) : ∃ τ, f_Cr_unpack 11 (nI (pkd s n)) σ = some τ ∧ (∀ j, j < n → τ.1 12 j = nI (s j)) ∧ Fr (only 12) σ τ := by
  have hp := pkd30 hn h8
  have m3 : ∀ k, nI 3 * nI k = nI (3 * k) := fun k => pk_mul 3 k
  unfold f_Cr_unpack
  simp only [litE]
  refine loopG (fun fu i a => f_Cr_unpack_L2 11 fu (nI (pkd s n)) (nI i) a) (fun o => ∃ τ, o = some τ ∧ (∀ j, j < n → τ.1 12 j = nI (s j)) ∧ Fr (only 12) σ τ) (fun i a => Fr (only 12) σ a ∧ ∀ j, j < i → a.1 12 j = nI (s j)) n 0 σ (by omega) (by omega) ⟨Fr.rf _ _, fun j h => absurd h (Nat.not_lt_zero j)⟩ ?_ ?_
  · rintro fu i a hi ⟨hF, hs⟩
    left
    have e2 : a.1 11 2 = nI n := (only_ne hF (by decide) 2).trans h2
    have h1 : ¬ n ≤ i := by omega
    have hv := pkd_at n h8 hi
    refine ⟨gpi a 12 i (nI (s i)), ?_, hF.pi rfl, fun j hj => ?_⟩
    · have hu : gush (nI (pkd s n)) (nI (3 * i)) = nI (pkd s n / 2 ^ (3 * i)) := ushN (by omega) (by omega)
      simp (maxSteps := 2000000) (disch := omega) only [f_Cr_unpack_L2, gupE, gltE, gllE, litE, litLE, bindE, ↓reduceIte, gsi_at, gsi_l2, gsl_at, gsl_i1, upd_at, updL_at, Nat.reduceEqDiff, gix_nI, nI_clamp, bI_0, bI_gzb, Bool.true_eq_false, Bool.false_eq_true, e2, nI_leI, h1, m3, hu, and7, hv, nI_add]
    · rw [gpi_at]
      by_cases q : j = i
      · rw [if_pos ⟨rfl, q⟩, q]
      · rw [if_neg fun z => q z.2]
        exact hs j (by omega)
  · rintro fu a ⟨hF, hs⟩
    have e2 : a.1 11 2 = nI n := (only_ne hF (by decide) 2).trans h2
    have h1 : nI n ≤ nI n := Int32.le_refl _
    refine ⟨a, ?_, hs, hF⟩
    simp (maxSteps := 2000000) (disch := omega) only [f_Cr_unpack_L2, gupE, gltE, gllE, litE, litLE, bindE, ↓reduceIte, gsi_at, gsi_l2, gsl_at, gsl_i1, upd_at, updL_at, Nat.reduceEqDiff, gix_nI, nI_clamp, bI_0, bI_gzb, Bool.true_eq_false, Bool.false_eq_true, e2, h1]
def KS (σ : gS) (n : Nat) (K : Nat → Nat) (W : Nat) : Prop := σ.1 11 2 = nI n ∧ σ.1 11 3 = nI W ∧ ∀ j, j < n → σ.1 13 j = nI (K j)
/-- what has been kept of the days since forget() -/
def Memo (σ : gS) (n : Nat) (K E P : Nat → Nat) (B : Nat → Int32) (W D : Nat) (V : VT) : Prop := ∀ w a, w < 6 → a < 40 → σ.1 17 (40 * w + a) = -1 ∨ (σ.1 17 (40 * w + a) = nI (pkd (sy V K E P B w (D + a)) n) ∧ KS σ n K W)
theorem day_free {σ : gS} {V : VT} (hV : LwV σ V) (h : σ.1 6 5 = nI 0) (K E P : Nat → Nat) (B : Nat → Int32) (w d d' j : Nat) : sy V K E P B w d j = sy V K E P B w d' j := by
  unfold sy spk
  cases V with
  | none => rfl
  | some V =>
    obtain ⟨len, tn, -, -, -, hu, -, -⟩ := hV
    rcases hu with ⟨-, hu⟩ | hu
    · have : V (nms w (E j) (K j) (P j) d j) = V (nms w (E j) (K j) (P j) d' j) := by
        refine hu _ _ fun i h1 h2 => ?_
        unfold nms
        by_cases e0 : i = 0
        · rw [if_pos e0, if_pos e0]
        · by_cases e1 : i = 1
          · rw [if_neg e0, if_pos e1, if_neg e0, if_pos e1]
          · by_cases e2 : i = 2
            · rw [if_neg e0, if_neg e1, if_pos e2, if_neg e0, if_neg e1, if_pos e2]
            · by_cases e3 : i = 3
              · rw [if_neg e0, if_neg e1, if_neg e2, if_pos e3, if_neg e0, if_neg e1, if_neg e2, if_pos e3]
              · rw [if_neg e0, if_neg e1, if_neg e2, if_neg e3, if_neg h2, if_neg e0, if_neg e1, if_neg e2, if_neg e3, if_neg h2]
      show (if 0 ≤ (B j).toInt then (B j).toInt.toNat else clI (V (nms w (E j) (K j) (P j) d j))) = if 0 ≤ (B j).toInt then (B j).toInt.toNat else clI (V (nms w (E j) (K j) (P j) d' j))
      rw [this]
    · rw [h] at hu
      exact absurd hu (by decide)
theorem usesDay_01 {σ : gS} {V : VT} (hV : LwV σ V) : σ.1 6 5 = nI 0 ∨ σ.1 6 5 = nI 1 := by
  cases V with
  | none => exact Or.inl hV.2.2
  | some V =>
    obtain ⟨len, tn, -, -, -, hu, -, -⟩ := hV
    rcases hu with ⟨hu, -⟩ | hu
    · exact Or.inl hu
    · exact Or.inr hu
theorem Cagain {σ : gS} {n : Nat} {K E P : Nat → Nat} {B : Nat → Int32} {F W D m : Nat} {V : VT} (h : Ctx σ n K E P B F W D m V) (hm : Memo σ n K E P B W D V) {w i : Nat} (hw : w < 6) (hi : i < 40) :
    ∃ τ, f_Cr_gatherAgain 11 (nI w) (nI (min 99 (D + i))) σ = some τ ∧ CS 11 τ n (sy V K E P B w (min 99 (D + i))) K W ∧ Memo τ n K E P B W D V ∧ Frs σ τ := by
  have hD : D < 100 := h.1.2.2.2.2.1
  have hn := h.1.1.1
  -- the place
  obtain ⟨a, ha, hs, hpl⟩ : ∃ a, a < 40 ∧ (∀ j, sy V K E P B w (min 99 (D + i)) j = sy V K E P B w (D + a) j) ∧ f_Cr_gatherAgain 11 (nI w) (nI (min 99 (D + i))) σ = f_Cr_gatherAgain_j20 11 (nI w) (nI (min 99 (D + i))) (nI a) σ := by
    rcases usesDay_01 h.2.1 with hu | hu
    · refine ⟨0, by omega, fun j => day_free h.2.1 hu K E P B w _ _ j, ?_⟩
      unfold f_Cr_gatherAgain
      rw [if_pos (show σ.1 6 5 = 0 from hu)]
      rfl
    · refine ⟨min 99 (D + i) - D, by omega, fun j => by rw [show D + (min 99 (D + i) - D) = min 99 (D + i) by omega], ?_⟩
      unfold f_Cr_gatherAgain
      rw [if_neg (show ¬ σ.1 6 5 = 0 by rw [hu]; decide), h.1.2.2.2.2.2.1, pk_sub (by omega)]
  have hr : Rg n (sy V K E P B w (min 99 (D + i))) K W := sy_rg h.1.pm hw
  have hpk : pkd (sy V K E P B w (min 99 (D + i))) n = pkd (sy V K E P B w (D + a)) n := pkd_cg n fun j _ => hs j
  have h8 : ∀ j, j < n → sy V K E P B w (D + a) j < 8 := fun j hj => by
    rw [← hs j]
    have := hr.sk hj
    omega
  have hp30 := pkd30 hn h8
  have w6 : inb (nI w) 6 = true := by
    rw [inb_nI (by omega)]
    exact decide_eq_true hw
  have a40 : inb (nI a) 40 = true := by
    rw [inb_nI (by omega)]
    exact decide_eq_true ha
  have m40 : nI w * nI 40 = nI (w * 40) := pk_mul w 40
  have plc : w * 40 + a = 40 * w + a := by omega
  rw [hpl]
  unfold f_Cr_gatherAgain_j20
  rcases hm w a hw ha with e | ⟨e, hK⟩
  · obtain ⟨s9, g1, g2, g3⟩ := Cgather (Or.inl rfl) h.1 h.2.1 (w := w) (d := min 99 (D + i)) hw (by omega)
    have hpa := Cpacked g2 hr
    rw [hpk] at hpa
    obtain ⟨τ, hτ⟩ : ∃ τ, τ = gpi s9 17 (40 * w + a) (nI (pkd (sy V K E P B w (D + a)) n)) := ⟨_, rfl⟩
    have F1 : Frs σ s9 := fr_no g3 (cGa_s (Or.inl rfl))
    have r : ∀ c k, c ≠ 17 → τ.1 c k = s9.1 c k := fun c k q => by rw [hτ, gpi_at, if_neg fun z => q z.1]
    have hCS : CS 11 τ n (sy V K E P B w (min 99 (D + i))) K W := ⟨⟨(r 11 2 (by decide)).trans g2.1.1, (r 11 3 (by decide)).trans g2.1.2⟩, fun j hj => ⟨(r 12 j (by decide)).trans (g2.2 j hj).1, (r 13 j (by decide)).trans (g2.2 j hj).2⟩⟩
    refine ⟨τ, ?_, hCS, fun w' a' hw' ha' => ?_, F1.tr ?_⟩
    · have e1 : σ.1 17 (w * 40 + a) = -nI 1 := by rw [plc]; exact e
      have hpn : ¬ nI (pkd (sy V K E P B w (D + a)) n) = -nI 1 := by
        intro q
        have := congrArg Int32.toInt q
        rw [nI_toInt (by omega), show (-nI 1 : Int32).toInt = -1 by decide] at this
        omega
      simp (maxSteps := 2000000) (disch := omega) only [gupE, gltE, gllE, litE, litLE, bindE, ↓reduceIte, gsi_at, gsi_l2, gsl_at, gsl_i1, upd_at, updL_at, Nat.reduceEqDiff, gix_nI, nI_clamp, bI_0, bI_gzb, Bool.true_eq_false, Bool.false_eq_true, within_eq, w6, a40, m40, nI_add, e1, g1, hpa]
      rw [plc, ← hτ]
    · have hks : KS τ n K W := ⟨hCS.1.1, hCS.1.2, fun j hj => (hCS.2 j hj).2⟩
      rw [hτ, gpi_at]
      by_cases q : 40 * w' + a' = 40 * w + a
      · have q1 : w' = w := by omega
        have q2 : a' = a := by omega
        subst q1
        subst q2
        rw [if_pos ⟨rfl, rfl⟩, ← hτ]
        exact Or.inr ⟨rfl, hks⟩
      · rw [if_neg fun z => q z.2, ← hτ, g3.1 17 _ rfl]
        rcases hm w' a' hw' ha' with z | ⟨z, -⟩
        · exact Or.inl z
        · exact Or.inr ⟨z, hks⟩
    · rw [hτ]
      exact (Fr.rf _ s9).pi rfl
  · obtain ⟨τ, g1, g2, g3⟩ := Cunpack hK.1 hn h8
    have hCS : CS 11 τ n (sy V K E P B w (min 99 (D + i))) K W := ⟨⟨(only_ne g3 (by decide) 2).trans hK.1, (only_ne g3 (by decide) 3).trans hK.2.1⟩, fun j hj => ⟨by rw [hs j]; exact g2 j hj, (only_ne g3 (by decide) j).trans (hK.2.2 j hj)⟩⟩
    refine ⟨τ, ?_, hCS, fun w' a' hw' ha' => ?_, fr_no g3 (only_s (by omega))⟩
    · have e1 : σ.1 17 (w * 40 + a) = nI (pkd (sy V K E P B w (D + a)) n) := by rw [plc]; exact e
      have hpn : ¬ nI (pkd (sy V K E P B w (D + a)) n) = -nI 1 := by
        intro q
        have := congrArg Int32.toInt q
        rw [nI_toInt (by omega), show (-nI 1 : Int32).toInt = -1 by decide] at this
        omega
      simp (maxSteps := 2000000) (disch := omega) only [gupE, gltE, gllE, litE, litLE, bindE, ↓reduceIte, gsi_at, gsi_l2, gsl_at, gsl_i1, upd_at, updL_at, Nat.reduceEqDiff, gix_nI, nI_clamp, bI_0, bI_gzb, Bool.true_eq_false, Bool.false_eq_true, within_eq, w6, a40, m40, nI_add, e1, hpn, g1]
    · have hks : KS τ n K W := ⟨hCS.1.1, hCS.1.2, fun j hj => (hCS.2 j hj).2⟩
      rw [only_ne g3 (by decide)]
      rcases hm w' a' hw' ha' with z | ⟨z, -⟩
      · exact Or.inl z
      · exact Or.inr ⟨z, hks⟩
