/-! pure: the law's text: class and reference read it in step -/
def CB (len : Nat) (T : Nat → Nat) (σ : gS) : Prop := σ.1 27 3 = nI len ∧ ∀ j, j < len → σ.1 28 j = nI (T j)
def CP (len : Nat) (T : Nat → Nat) (σ : gS) (i m : Nat) (u : Bool) : Prop := CB len T σ ∧ (i ≤ len ∧ σ.1 27 5 = nI i) ∧ (m ≤ i ∧ σ.1 27 4 = nI m) ∧ σ.1 27 6 = -nI 1 ∧ σ.1 27 7 = bI u
def CF (len : Nat) (T : Nat → Nat) (σ : gS) (k : Nat) : Prop := CB len T σ ∧ (k ≤ len ∧ σ.1 27 6 = nI k) ∧ (∃ i, i ≤ len ∧ σ.1 27 5 = nI i) ∧ (∃ m, m ≤ 128 ∧ σ.1 27 4 = nI m) ∧ ∃ u, σ.1 27 7 = bI u
def MB (len : Nat) (T : Nat → Nat) (υ : gS) : Prop := υ.1 59 13 = nI len ∧ ((υ.1 59 11 = -nI 1 ∧ ∀ j, j < len → υ.1 64 j = nI (T j)) ∨ (υ.1 59 11 = nI 0 ∧ ∀ j, j < len → υ.1 65 j = nI (T j)))
def MT (len : Nat) (T : Nat → Nat) (υ : gS) (i o : Nat) : Prop := MB len T υ ∧ (i ≤ len ∧ υ.1 59 12 = nI i) ∧ υ.1 59 14 = -nI 1 ∧ υ.1 59 15 = nI o
def MF (len : Nat) (T : Nat → Nat) (υ : gS) (k : Nat) : Prop := MB len T υ ∧ (∃ i, i ≤ len ∧ υ.1 59 12 = nI i) ∧ (k ≤ len ∧ υ.1 59 14 = nI k)
def cP (c k : Nat) : Bool := (c == 27) && (k == 4 || k == 5 || k == 6 || k == 7) || c == 29 || c == 30
def cM (c k : Nat) : Bool := (c == 59) && (k == 12 || k == 14 || k == 15)
def cV (c k : Nat) : Bool := (c == 6) && (k == 3) || c == 9
theorem m1_ne {k : Nat} (h : k < 2147483648) : ¬ nI k = -nI 1 := by
  intro q
  have := congrArg Int32.toInt q
  rw [nI_toInt (by omega), show (-nI 1).toInt = -1 from by decide] at this
  omega
theorem m1_lt {k : Nat} (h : k < 2147483648) : nI 0 ≤ nI k := by
  rw [nI_leI (by omega) (by omega)]
  omega
theorem CB.cg {len : Nat} {T : Nat → Nat} {σ τ : gS} (h : CB len T σ) (h3 : τ.1 27 3 = σ.1 27 3) (h28 : ∀ j, τ.1 28 j = σ.1 28 j) : CB len T τ := ⟨h3.trans h.1, fun j hj => (h28 j).trans (h.2 j hj)⟩
theorem CB.fr {len : Nat} {T : Nat → Nat} {σ τ : gS} (h : CB len T σ) (hF : Fr cP σ τ) : CB len T τ := h.cg (hF.1 27 3 rfl) fun j => hF.1 28 j rfl
theorem MB.fr {len : Nat} {T : Nat → Nat} {σ τ : gS} (h : MB len T σ) (hF : Fr cM σ τ) : MB len T τ := by
  unfold MB at h ⊢
  rw [hF.1 59 13 rfl, hF.1 59 11 rfl]
  simp only [hF.1 64 _ rfl, hF.1 65 _ rfl]
  exact h
theorem Cnext {len i : Nat} {T : Nat → Nat} {σ : gS} (hl : len ≤ 120) (h : CB len T σ) (hi : i ≤ len) (h5 : σ.1 27 5 = nI i) : f_Pa_next σ = some (if i < len then nI (T i) else -nI 1) := by
  unfold f_Pa_next
  simp only [litE]
  rw [h.1, h5]
  by_cases q : i < len
  · have hb : inb (nI i) 120 = true := by
      rw [inb_nI (by omega)]
      exact decide_eq_true (by omega)
    rw [if_neg (nI_ge q (by omega)), within_eq _ (by decide), hb, bindE, if_neg (show ¬ bI true = nI 0 by decide), if_pos (gix_nI (by omega) (by decide)), nI_clamp (by omega), h.2 i q, if_pos q]
  · rw [if_pos (nI_le (by omega) (by omega)), if_neg q]
theorem Mbyte {len i : Nat} {T : Nat → Nat} {υ : gS} (hl : len ≤ 120) (h : MB len T υ) (hi : i ≤ len) (h12 : υ.1 59 12 = nI i) : f_M_byteAt υ = some (if i < len then nI (T i) else nI 0) := by
  unfold f_M_byteAt
  simp only [litE]
  rw [h.1, h12]
  by_cases q : i < len
  · rw [if_neg (nI_ge q (by omega)), if_pos q]
    rcases h.2 with ⟨a, b⟩ | ⟨a, b⟩
    · rw [a, if_neg (show ¬ nI 0 ≤ -nI 1 by decide), if_pos (gix_nI (by omega) (by decide)), nI_clamp (by omega), b i q]
    · rw [a, if_pos (show nI 0 ≤ nI 0 by decide), nI_add, Nat.zero_add, if_pos (gix_nI (by omega) (by decide)), nI_clamp (by omega), b i q]
  · rw [if_pos (nI_le (by omega) (by omega)), if_neg q]
theorem Cemit {m : Nat} {σ : gS} (a b : Int32) (hm : m < 128) (h4 : σ.1 27 4 = nI m) : f_Pa_emit a b σ = some (gpi (gpi (gpi σ 29 m a) 30 m b) 27 4 (nI (m + 1))) := by
  unfold f_Pa_emit
  simp only [litE]
  have e1 : (gpi σ 29 m a).1 27 4 = nI m := h4
  have e2 : (gpi (gpi σ 29 m a) 30 m b).1 27 4 = nI m := h4
  rw [h4, if_neg (nI_ge hm (by omega)), if_pos (gix_nI hm (by decide)), nI_clamp (by omega), gupE, e1, if_pos (gix_nI hm (by decide)), nI_clamp (by omega), gupE, e2, gupE, nI_add]
theorem CemitF {len k : Nat} {T : Nat → Nat} {σ : gS} (a b : Int32) (h : CF len T σ k) : ∃ τ, f_Pa_emit a b σ = some τ ∧ CF len T τ k ∧ Fr cP σ τ := by
  obtain ⟨h1, h2, h3, ⟨m, hm, h4⟩, h5⟩ := h
  by_cases q : m < 128
  · exact ⟨_, Cemit a b q h4, ⟨h1, h2, h3, ⟨m + 1, by omega, rfl⟩, h5⟩, (((Fr.rf cP σ).pi rfl).pi rfl).pi rfl⟩
  · refine ⟨σ, ?_, ⟨h1, h2, h3, ⟨m, hm, h4⟩, h5⟩, Fr.rf _ _⟩
    unfold f_Pa_emit
    simp only [litE]
    rw [h4, if_pos (nI_le (by omega) (by omega))]
/-- a byte asked for: both take it, or neither -/
theorem Cmeets {len i m c : Nat} {u : Bool} {T : Nat → Nat} {σ : gS} (hl : len ≤ 120) (hT : ∀ j, j < len → T j < 256) (hc : c < 256) (h : CP len T σ i m u) : (i < len ∧ T i = c ∧ f_Pa_meets (nI c) σ = some (nI 1, gpi σ 27 5 (nI (i + 1)))) ∨ (¬ (i < len ∧ T i = c) ∧ f_Pa_meets (nI c) σ = some (nI 0, σ)) := by
  obtain ⟨h1, h2, h3, h4, h5⟩ := h
  unfold f_Pa_meets
  simp only [litE]
  rw [h4, if_pos rfl, Cnext hl h1 h2.1 h2.2, bindE]
  by_cases q : i < len
  · have := hT i q
    by_cases q2 : T i = c
    · left
      refine ⟨q, q2, ?_⟩
      rw [if_pos q, if_pos (by rw [q2]), gupE, h2.2, nI_add]
    · right
      refine ⟨fun z => q2 z.2, ?_⟩
      rw [if_pos q, if_neg (by rw [nI_eq (by omega) (by omega)]; exact q2)]
  · right
    refine ⟨fun z => q z.1, ?_⟩
    rw [if_neg q, if_neg (fun z => m1_ne (k := c) (by omega) z.symm)]
theorem CmeetsF {len k : Nat} {T : Nat → Nat} {σ : gS} (x : Int32) (hl : len ≤ 120) (h : CF len T σ k) : f_Pa_meets x σ = some (nI 0, σ) := by
  obtain ⟨h1, h2, h3, h4, h5⟩ := h
  unfold f_Pa_meets
  simp only [litE]
  rw [h2.2, if_neg (m1_ne (by omega))]
theorem Mtakes {len i o c : Nat} {T : Nat → Nat} {υ : gS} (hl : len ≤ 120) (hT : ∀ j, j < len → T j < 256) (hc : 0 < c ∧ c < 256) (h : MT len T υ i o) : ((i < len ∧ T i = c) → f_M_takes (nI c) υ = some (nI 1, gpi υ 59 12 (nI (i + 1)))) ∧ (¬ (i < len ∧ T i = c) → f_M_takes (nI c) υ = some (nI 0, υ)) := by
  obtain ⟨h1, h2, h3, h4⟩ := h
  unfold f_M_takes
  simp only [litE]
  rw [h3, if_neg (show ¬ nI 0 ≤ -nI 1 by decide), Mbyte hl h1 h2.1 h2.2, bindE]
  refine ⟨fun z => ?_, fun z => ?_⟩
  · rw [if_pos z.1, if_pos (by rw [z.2]), gupE, h2.2, nI_add]
  · by_cases q : i < len
    · have := hT i q
      rw [if_pos q, if_neg (by rw [nI_eq (by omega) (by omega)]; exact fun e => z ⟨q, e⟩)]
    · rw [if_neg q, if_neg (by rw [nI_eq (by omega) (by omega)]; omega)]
theorem MtakesF {len k : Nat} {T : Nat → Nat} {υ : gS} (x : Int32) (hl : len ≤ 120) (h : MF len T υ k) : f_M_takes x υ = some (nI 0, υ) := by
  unfold f_M_takes
  simp only [litE]
  rw [h.2.2.2, if_pos (m1_lt (by have := h.2.2.1; omega))]
theorem Crefuse {len i m : Nat} {u : Bool} {T : Nat → Nat} {σ : gS} (hl : len ≤ 120) (h : CP len T σ i m u) : f_Pa_refuse σ = some (gpi σ 27 6 (nI i)) ∧ CF len T (gpi σ 27 6 (nI i)) i := by
  obtain ⟨h1, h2, h3, h4, h5⟩ := h
  unfold f_Pa_refuse
  simp only [litE]
  rw [h4, if_pos rfl, gupE, h2.2]
  exact ⟨rfl, ⟨h1, ⟨h2.1, rfl⟩, ⟨i, h2.1, h2.2⟩, ⟨m, by omega, h3.2⟩, u, h5⟩⟩
theorem CrefuseF {len k : Nat} {T : Nat → Nat} {σ : gS} (hl : len ≤ 120) (h : CF len T σ k) : f_Pa_refuse σ = some σ := by
  unfold f_Pa_refuse
  simp only [litE]
  rw [h.2.1.2, if_neg (m1_ne (by have := h.2.1.1; omega))]
theorem Mwrong {len i o : Nat} {T : Nat → Nat} {υ : gS} (h : MT len T υ i o) : f_M_wrong υ = some (nI 0, gpi υ 59 14 (nI i)) ∧ MF len T (gpi υ 59 14 (nI i)) i := by
  obtain ⟨h1, h2, h3, h4⟩ := h
  unfold f_M_wrong f_M_wrong_j19
  simp only [litE]
  rw [h3, if_neg (show ¬ nI 0 ≤ -nI 1 by decide), gupE, h2.2]
  exact ⟨rfl, h1.fr ((Fr.rf cM υ).pi rfl), ⟨i, h2.1, h2.2⟩, h2.1, rfl⟩
theorem MwrongF {len k : Nat} {T : Nat → Nat} {υ : gS} (hl : len ≤ 120) (h : MF len T υ k) : ∃ υ', f_M_wrong υ = some (nI 0, υ') ∧ MF len T υ' k ∧ Fr cM υ υ' := by
  obtain ⟨h1, h2, h3⟩ := h
  refine ⟨gpi υ 59 14 (nI k), ?_, ⟨h1.fr ((Fr.rf cM υ).pi rfl), h2, h3.1, rfl⟩, (Fr.rf _ _).pi rfl⟩
  unfold f_M_wrong f_M_wrong_j19
  simp only [litE]
  rw [h3.2, if_pos (m1_lt (by omega)), gupE]
