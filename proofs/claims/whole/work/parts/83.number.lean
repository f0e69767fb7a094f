/-! pure: a number of the law's text -/
def dgt (len : Nat) (T : Nat → Nat) (i : Nat) : Prop := i < len ∧ 48 ≤ T i ∧ T i ≤ 57
theorem isDigit_eq {b : Nat} (hb : b < 256) : f_Pa_isDigit (nI b) = some (bI (decide (48 ≤ b ∧ b ≤ 57))) := by
  unfold f_Pa_isDigit
  simp only [litE]
  by_cases q1 : b < 48
  · rw [if_pos (show nI b < nI 48 by rw [nI_ltI (by omega) (by omega)]; omega), decide_eq_false (by omega)]
    rfl
  · rw [if_neg (show ¬ nI b < nI 48 by rw [nI_ltI (by omega) (by omega)]; omega)]
    by_cases q2 : 57 < b
    · rw [if_pos (show nI 57 < nI b by rw [nI_ltI (by omega) (by omega)]; omega), decide_eq_false (by omega)]
      rfl
    · rw [if_neg (show ¬ nI 57 < nI b by rw [nI_ltI (by omega) (by omega)]; omega), decide_eq_true (by omega)]
      rfl
theorem Cdigit {len i : Nat} {T : Nat → Nat} (hT : ∀ j, j < len → T j < 256) : (dgt len T i → f_Pa_isDigit (if i < len then nI (T i) else -nI 1) = some (bI true)) ∧ (¬ dgt len T i → f_Pa_isDigit (if i < len then nI (T i) else -nI 1) = some (bI false)) := by
  refine ⟨fun h => ?_, fun h => ?_⟩
  · rw [if_pos h.1, isDigit_eq (hT i h.1), decide_eq_true h.2]
  · by_cases q : i < len
    · rw [if_pos q, isDigit_eq (hT i q), decide_eq_false fun z => h ⟨q, z⟩]
    · rw [if_neg q]
      decide
theorem Mdigit {len i o : Nat} {T : Nat → Nat} {υ : gS} {kone : gS → Option (Int32 × gS)} {acc : Int32} {k n : Nat} (hl : len ≤ 120) (hT : ∀ j, j < len → T j < 256) (hk : k < 4) (hM : MT len T υ i o) : (dgt len T i → f_M_one_L176 kone (n + 1) acc (nI k) υ = f_M_one_L176 kone n (nI 10 * acc + nI (T i) - nI 48) (nI (k + 1)) (gpi υ 59 12 (nI (i + 1)))) ∧ (¬ dgt len T i → f_M_one_L176 kone (n + 1) acc (nI k) υ = f_M_one_j229 kone acc (nI k) υ) := by
  have hb := bt_lt (i := i) hT
  have h0 : f_M_one_L176 kone (n + 1) acc (nI k) υ = if nI (bt len T i) < nI 48 then f_M_one_j229 kone acc (nI k) υ else if nI 57 < nI (bt len T i) then f_M_one_j229 kone acc (nI k) υ else f_M_one_L176 kone n (nI 10 * acc + nI (bt len T i) - nI 48) (nI (k + 1)) (gpi υ 59 12 (nI (i + 1))) := by
    rw [f_M_one_L176]
    simp only [litE]
    rw [if_neg (nI_ge hk (by decide)), MbyteN hl hM, bindE, bindE, bindE, gltE, gupE, hM.2.1.2, nI_add, nI_add]
  rw [h0]
  refine ⟨fun h => ?_, fun h => ?_⟩
  · have e : bt len T i = T i := by
      unfold bt
      rw [if_pos h.1]
    obtain ⟨h1, h2, h3⟩ := h
    rw [e, if_neg (show ¬ nI (T i) < nI 48 by rw [nI_ltI (by omega) (by omega)]; omega), if_neg (show ¬ nI 57 < nI (T i) by rw [nI_ltI (by omega) (by omega)]; omega)]
  · by_cases q1 : bt len T i < 48
    · rw [if_pos (show nI (bt len T i) < nI 48 by rw [nI_ltI (by omega) (by omega)]; omega)]
    · rw [if_neg (show ¬ nI (bt len T i) < nI 48 by rw [nI_ltI (by omega) (by omega)]; omega)]
      have hi : i < len := ((bt_eq (c := bt len T i) (by omega)).mp rfl).1
      have e : bt len T i = T i := by
        unfold bt
        rw [if_pos hi]
      have q2 : 57 < bt len T i := by
        rw [e] at q1 ⊢
        exact Nat.lt_of_not_le fun z => h ⟨hi, by omega, z⟩
      rw [if_pos (show nI 57 < nI (bt len T i) by rw [nI_ltI (by omega) (by omega)]; omega)]
theorem Number {len o m : Nat} {u : Bool} {T : Nat → Nat} {kone : gS → Option (Int32 × gS)} (hl : len ≤ 120) (hT : ∀ j, j < len → T j < 256) : ∀ t k i acc σ cf, k + t = 4 → t < cf → CP len T σ i m u → (k = 0 → dgt len T i) → (k ≠ 0 → m < i) →
    ∃ τ i' v, f_Pa_readNumber_L4 cf acc (nI k) σ = some τ ∧ CP len T τ i' (m + 1) u ∧ Fr cP σ τ ∧ Keep m σ τ ∧ (i ≤ i' ∧ (k = 0 → i < i')) ∧ τ.1 29 m = nI 1 ∧ τ.1 30 m = v ∧ ∀ rf, t < rf → ∀ υ, MT len T υ i o → ∃ υ', f_M_one_L176 kone rf acc (nI k) υ = some (v, υ') ∧ MT len T υ' i' o ∧ Fr cM υ υ' := by
  have stop : ∀ k i acc σ cf, k ≤ 4 → k ≠ 0 → CP len T σ i m u → m < i → (k = 4 ∨ ¬ dgt len T i) → ∃ τ, f_Pa_readNumber_L4 (cf + 1) acc (nI k) σ = some τ ∧ CP len T τ i (m + 1) u ∧ Fr cP σ τ ∧ Keep m σ τ ∧ τ.1 29 m = nI 1 ∧ τ.1 30 m = acc ∧ ∀ rf, 0 < rf → ∀ υ, MT len T υ i o → f_M_one_L176 kone rf acc (nI k) υ = some (acc, υ) := by
    intro k i acc σ cf hk hk0 hP hm hst
    obtain ⟨τ, a1, a2, a3, a4, a5, a6⟩ := hP.emit (nI 1) acc hl hm
    have h48 : f_Pa_readNumber_j48 acc σ = some τ := by
      unfold f_Pa_readNumber_j48
      simp only [litE]
      rw [a1, bindE]
    have h229 : ∀ υ, f_M_one_j229 kone acc (nI k) υ = some (acc, υ) := fun υ => by
      unfold f_M_one_j229
      rw [if_neg (show ¬ nI k = 0 from nIne (by omega) (by decide) hk0)]
    refine ⟨τ, ?_, a2, a3, a4, a5, a6, fun rf hrf υ hM => ?_⟩
    · rw [f_Pa_readNumber_L4]
      simp only [litE]
      by_cases q : k = 4
      · rw [q, if_pos (show nI 4 ≤ nI 4 by decide), h48]
      · rw [if_neg (nI_ge (by omega) (by decide)), Cnext hl hP.1 hP.2.1.1 hP.2.1.2, bindE, (Cdigit hT).2 (hst.resolve_left q), bindE, if_pos (show bI false = nI 0 by decide), h48]
    · obtain ⟨r', rfl⟩ : ∃ r', rf = r' + 1 := ⟨rf - 1, by omega⟩
      by_cases q : k = 4
      · rw [f_M_one_L176]
        simp only [litE]
        rw [q, if_pos (show nI 4 ≤ nI 4 by decide), ← q, h229]
      · rw [(Mdigit hl hT (by omega) hM).2 (hst.resolve_left q), h229]
  intro t
  induction t with
  | zero =>
    intro k i acc σ cf hk hcf hP _ hm
    obtain ⟨c', rfl⟩ : ∃ c', cf = c' + 1 := ⟨cf - 1, by omega⟩
    obtain ⟨τ, a1, a2, a3, a4, a5, a6, a7⟩ := stop k i acc σ c' (by omega) (by omega) hP (hm (by omega)) (Or.inl (by omega))
    exact ⟨τ, i, acc, a1, a2, a3, a4, ⟨Nat.le_refl _, fun z => by omega⟩, a5, a6, fun rf hrf υ hM => ⟨υ, a7 rf (by omega) υ hM, hM, Fr.rf _ _⟩⟩
  | succ t ih =>
    intro k i acc σ cf hk hcf hP h0 hm
    obtain ⟨c', rfl⟩ : ∃ c', cf = c' + 1 := ⟨cf - 1, by omega⟩
    by_cases q : dgt len T i
    · have hm1 := hP.2.2.1.1
      have hP1 := hP.adv (j := i + 1) (by omega) q.1
      have hx : (acc * nI 10 + nI (T i) - nI 48) = (nI 10 * acc + nI (T i) - nI 48) := by rw [Int32.mul_comm acc (nI 10)]
      obtain ⟨τ, i', v, a1, a2, a3, a4, a5, a6, a7, a8⟩ := ih (k + 1) (i + 1) (nI 10 * acc + nI (T i) - nI 48) _ c' (by omega) (by omega) hP1 (by omega) (by omega)
      refine ⟨τ, i', v, ?_, a2, ((Fr.rf cP σ).pi rfl).tr a3, a4, by omega, a6, a7, fun rf hrf υ hM => ?_⟩
      · rw [f_Pa_readNumber_L4]
        simp only [litE]
        rw [if_neg (nI_ge (by omega) (by decide)), Cnext hl hP.1 hP.2.1.1 hP.2.1.2, bindE, (Cdigit hT).1 q, bindE, if_neg (show ¬ bI true = nI 0 by decide), if_pos q.1, bindE, gltE, gupE, hP.2.1.2, nI_add, nI_add, hx, a1]
      · obtain ⟨r', rfl⟩ : ∃ r', rf = r' + 1 := ⟨rf - 1, by omega⟩
        obtain ⟨υ', b1, b2, b3⟩ := a8 r' (by omega) _ (hM.adv (j := i + 1) q.1)
        refine ⟨υ', ?_, b2, ((Fr.rf cM υ).pi rfl).tr b3⟩
        rw [(Mdigit hl hT (by omega) hM).1 q, b1]
    · have hk0 : k ≠ 0 := fun z => q (h0 z)
      obtain ⟨τ, a1, a2, a3, a4, a5, a6, a7⟩ := stop k i acc σ c' (by omega) hk0 hP (hm hk0) (Or.inr q)
      exact ⟨τ, i, acc, a1, a2, a3, a4, ⟨Nat.le_refl _, fun z => absurd z hk0⟩, a5, a6, fun rf hrf υ hM => ⟨υ, a7 rf (by omega) υ hM, hM, Fr.rf _ _⟩⟩
