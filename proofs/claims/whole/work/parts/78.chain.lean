/-! pure: one rank of the law's text over the next -/
def Dp (V : (Nat → Int32) → Int32) (u : Bool) : Prop := ∀ f g : Nat → Int32, (∀ i, i < 6 → (i ≠ 4 ∨ u = true) → f i = g i) → V f = V g
theorem Dp.up {V : (Nat → Int32) → Int32} {u u' : Bool} (h : Dp V u) (hu : u = true → u' = true) : Dp V u' := fun f g q => h f g fun i hi z => q i hi (z.imp id hu)
def Keep (m : Nat) (σ τ : gS) : Prop := ∀ k, k < m → τ.1 29 k = σ.1 29 k ∧ τ.1 30 k = σ.1 30 k
theorem Keep.tr {m m' : Nat} {σ τ υ : gS} (h : Keep m σ τ) (h2 : Keep m' τ υ) (hm : m ≤ m') : Keep m σ υ := fun k hk => ⟨(h2 k (by omega)).1.trans (h k hk).1, (h2 k (by omega)).2.trans (h k hk).2⟩
def GoF (len : Nat) (T : Nat → Nat) (X : gS → Option (Int32 × gS)) (i k o : Nat) : Prop := ∀ υ, MT len T υ i o → ∃ x υ', X υ = some (x, υ') ∧ MF len T υ' k ∧ Fr cM υ υ'
def GoV (len : Nat) (T : Nat → Nat) (X : gS → Option (Int32 × gS)) (i i' : Nat) (V : (Nat → Int32) → Int32) (o : Nat) : Prop := ∀ υ, MT len T υ i o → ∃ υ', X υ = some (V (υ.1 66), υ') ∧ MT len T υ' i' o ∧ Fr cM υ υ'
def Ag (len : Nat) (T : Nat → Nat) (C : gS → Option gS) (X : gS → Option (Int32 × gS)) (o : Nat) : Prop := ∀ σ i m u, CP len T σ i m u →
  (∃ τ k, C σ = some τ ∧ CF len T τ k ∧ Fr cP σ τ ∧ GoF len T X i k o) ∨
  (∃ τ i' m' u' V, C σ = some τ ∧ CP len T τ i' m' u' ∧ Fr cP σ τ ∧ Keep m σ τ ∧ (i < i' ∧ m < m' ∧ m' + i ≤ i' + m) ∧ Ex (τ.1 29) (τ.1 30) m m' V ∧ Dp V u' ∧ (u = true → u' = true) ∧ GoV len T X i i' V o)
def rkN (c : Nat) : Nat := if c = 37 then 4 else if c = 38 then 1 else if c = 42 then 4 else if c = 43 then 3 else if c = 45 then 3 else if c = 47 then 4 else if c = 60 then 2 else if c = 61 then 2 else if c = 62 then 2 else if c = 124 then 0 else 9
theorem rank_eq {c : Nat} (hc : c < 256) : f_Pa_rankOf (nI c) = some (if rkN c = 9 then -nI 1 else nI (rkN c)) := by
  unfold f_Pa_rankOf rkN
  simp (disch := omega) only [litE, nI_eq]
  repeat' split
  all_goals first | rfl | omega | contradiction
theorem rank_m1 : f_Pa_rankOf (-nI 1) = some (-nI 1) := by decide
theorem rk_op {c r : Nat} (h : rkN c = r) (hr : r < 5) : 6 < c ∧ c < 256 := by
  unfold rkN at h
  repeat' split at h
  all_goals omega
theorem MT.adv {len i j o : Nat} {T : Nat → Nat} {υ : gS} (h : MT len T υ i o) (hj : j ≤ len) : MT len T (gpi υ 59 12 (nI j)) j o := ⟨h.1.fr ((Fr.rf cM υ).pi rfl), ⟨hj, rfl⟩, h.2.2.1, h.2.2.2⟩
theorem MF.fr {len k : Nat} {T : Nat → Nat} {υ τ : gS} (h : MF len T υ k) (hF : Fr (fun c k => (c == 59) && (k == 15)) υ τ) : MF len T τ k := ⟨h.1.fr (hF.sub fun c k q => by
    simp only [cM, Bool.and_eq_false_iff, Bool.or_eq_false_iff] at q ⊢
    rcases q with q | q
    · exact Or.inl q
    · exact Or.inr q.2), by
  obtain ⟨i, a, b⟩ := h.2.1
  exact ⟨i, a, (hF.1 59 12 rfl).trans b⟩, h.2.2.1, (hF.1 59 14 rfl).trans h.2.2.2⟩
theorem CP.adv {len i j m : Nat} {u : Bool} {T : Nat → Nat} {σ : gS} (h : CP len T σ i m u) (hij : i ≤ j) (hj : j ≤ len) : CP len T (gpi σ 27 5 (nI j)) j m u := ⟨h.1.fr ((Fr.rf cP σ).pi rfl), ⟨hj, rfl⟩, ⟨by have := h.2.2.1.1; omega, h.2.2.1.2⟩, h.2.2.2.1, h.2.2.2.2⟩
/-- a code set down -/
theorem CP.emit {len i m : Nat} {u : Bool} {T : Nat → Nat} {σ : gS} (a b : Int32) (hl : len ≤ 120) (h : CP len T σ i m u) (hm : m < i) : ∃ τ, f_Pa_emit a b σ = some τ ∧ CP len T τ i (m + 1) u ∧ Fr cP σ τ ∧ Keep m σ τ ∧ τ.1 29 m = a ∧ τ.1 30 m = b := by
  have hi := h.2.1.1
  refine ⟨_, Cemit a b (by omega) h.2.2.1.2, ⟨h.1.fr ((((Fr.rf cP σ).pi rfl).pi rfl).pi rfl), ⟨hi, h.2.1.2⟩, ⟨by omega, rfl⟩, h.2.2.2.1, h.2.2.2.2⟩, (((Fr.rf cP σ).pi rfl).pi rfl).pi rfl, fun k hk => ⟨?_, ?_⟩, ?_, ?_⟩
  · show (gpi σ 29 m a).1 29 k = _
    rw [gpi_at, if_neg (by omega)]
  · show (gpi (gpi σ 29 m a) 30 m b).1 30 k = _
    rw [gpi_at, if_neg (by omega)]
    rfl
  · show (gpi σ 29 m a).1 29 m = _
    rw [gpi_at, if_pos ⟨rfl, rfl⟩]
  · show (gpi (gpi σ 29 m a) 30 m b).1 30 m = _
    rw [gpi_at, if_pos ⟨rfl, rfl⟩]
theorem L34_stopF {len k cf r o lim v4 : Nat} {T : Nat → Nat} {τ : gS} {kR : Int32 → Int32 → gS → Option gS} {kO : Int32 → gS → Option gS} (hl : len ≤ 120) (h : CF len T τ k) : f_Pa_readRank_L34 kR kO (cf + 1) (nI r) (nI o) (nI lim) (nI v4) τ = some τ := by
  rw [f_Pa_readRank_L34]
  simp only [litE]
  rw [h.2.1.2, if_neg (m1_ne (by have := h.2.1.1; omega))]
  split <;> rfl
theorem L34_stop {len i m cf r o lim v4 : Nat} {u : Bool} {T : Nat → Nat} {σ : gS} {kR : Int32 → Int32 → gS → Option gS} {kO : Int32 → gS → Option gS} (hl : len ≤ 120) (hT : ∀ j, j < len → T j < 256) (hr : r < 5) (h : CP len T σ i m u) (hn : ¬ (i < len ∧ rkN (T i) = r)) : f_Pa_readRank_L34 kR kO (cf + 1) (nI r) (nI o) (nI lim) (nI v4) σ = some σ := by
  rw [f_Pa_readRank_L34]
  simp only [litE]
  rw [h.2.2.2.1, if_pos rfl, Cnext hl h.1 h.2.1.1 h.2.1.2, bindE]
  by_cases q : i < len
  · have e : ¬ (if rkN (T i) = 9 then -nI 1 else nI (rkN (T i))) = nI r := by
      have hne : rkN (T i) ≠ r := fun z => hn ⟨q, z⟩
      split
      · exact fun z => m1_ne (k := r) (by omega) z.symm
      · have h9 : rkN (T i) < 100 := by
          unfold rkN
          repeat' split
          all_goals omega
        rw [nI_eq (by omega) (by omega)]
        exact hne
    rw [if_pos q, rank_eq (hT i q), bindE, if_neg e]
    split <;> rfl
  · rw [if_neg q, rank_m1, bindE, if_neg (show ¬ -nI 1 = nI r from fun z => m1_ne (k := r) (by omega) z.symm)]
    split <;> rfl
theorem L34_step {len i m cf r o lim v4 : Nat} {u : Bool} {T : Nat → Nat} {σ : gS} {kR : Int32 → Int32 → gS → Option gS} {kO : Int32 → gS → Option gS} (hl : len ≤ 120) (hT : ∀ j, j < len → T j < 256) (hr : r < 5) (h : CP len T σ i m u) (hv : v4 < lim ∧ lim < 1000) (q : i < len) (hr2 : rkN (T i) = r) : f_Pa_readRank_L34 kR kO (cf + 1) (nI r) (nI o) (nI lim) (nI v4) σ = (kR (nI (r + 1)) (nI o) (gpi σ 27 5 (nI (i + 1)))).bind fun s11 => (f_Pa_emit (nI (T i)) (nI 0) s11).bind fun s12 => f_Pa_readRank_L34 kR kO cf (nI r) (nI o) (nI lim) (nI (v4 + 1)) s12 := by
  rw [f_Pa_readRank_L34]
  simp only [litE]
  rw [if_neg (nI_ge hv.1 (by omega)), h.2.2.2.1, if_pos rfl, Cnext hl h.1 h.2.1.1 h.2.1.2, bindE, if_pos q, rank_eq (hT i q), bindE, hr2, if_neg (show ¬ r = 9 by omega), if_pos rfl, bindE, gupE, h.2.1.2, nI_add, nI_add, nI_add]
