/-! pure: pay both -/
def apt (a b : Nat) : Bool := decide (a / 10 ≠ b / 10 ∧ a / 10 ≠ b % 10 ∧ a % 10 ≠ b / 10 ∧ a % 10 ≠ b % 10)
theorem d10 {p : Nat} (hp : p < 100) : nI p / nI 10 = nI (p / 10) := pk_div (by omega) (by decide) (by decide)
theorem r10 {p : Nat} (hp : p < 100) : grem (nI p) (nI 10) = nI (p % 10) := grem_nI (by omega) (by decide) (by decide)
theorem Tapart {a b : Nat} (ha : a < 100) (hb : b < 100) : f_Br_areApart (nI a) (nI b) = some (bI (apt a b)) := by
  unfold f_Br_areApart apt
  simp (disch := omega) only [litE, d10 ha, d10 hb, r10 ha, r10 hb, nI_eq]
  by_cases q1 : a / 10 = b / 10
  · rw [if_pos q1, decide_eq_false (fun z => z.1 q1)]
    rfl
  · by_cases q2 : a / 10 = b % 10
    · rw [if_neg q1, if_pos q2, decide_eq_false (fun z => z.2.1 q2)]
      rfl
    · by_cases q3 : a % 10 = b / 10
      · rw [if_neg q1, if_neg q2, if_pos q3, decide_eq_false (fun z => z.2.2.1 q3)]
        rfl
      · by_cases q4 : a % 10 = b % 10
        · rw [if_neg q1, if_neg q2, if_neg q3, if_pos q4, decide_eq_false (fun z => z.2.2.2 q4)]
          rfl
        · rw [if_neg q1, if_neg q2, if_neg q3, if_neg q4, decide_eq_true ⟨q1, q2, q3, q4⟩]
          rfl
/-- least, the one pair, the other -/
def bstp (mt : Nat → Bool) (c1 c2 : Nat → Nat) (p o : Nat) (a : Nat × Nat × Nat) : Nat × Nat × Nat := if (mt p = true ∧ mt o = true ∧ apt p o = true) ∧ c1 p + c2 o < a.1 then (c1 p + c2 o, p, o) else a
def binn (mt : Nat → Bool) (c1 c2 : Nat → Nat) (p : Nat) (a : Nat × Nat × Nat) : Nat → Nat × Nat × Nat
  | 0 => a
  | o + 1 => bstp mt c1 c2 p o (binn mt c1 c2 p a o)
def bout (mt : Nat → Bool) (c1 c2 : Nat → Nat) : Nat → Nat × Nat × Nat
  | 0 => (1000000, 0, 0)
  | p + 1 => binn mt c1 c2 p (bout mt c1 c2 p) 100
def bok3 (a : Nat × Nat × Nat) : Prop := a.1 ≤ 1000000 ∧ a.2.1 < 100 ∧ a.2.2 < 100
theorem bstp_ok {mt : Nat → Bool} {c1 c2 : Nat → Nat} {p o : Nat} {a : Nat × Nat × Nat} (h : bok3 a) (hp : p < 100) (ho : o < 100) : bok3 (bstp mt c1 c2 p o a) := by
  unfold bstp
  split
  · rename_i q
    have := q.2
    have := h.1
    exact ⟨by show c1 p + c2 o ≤ _; omega, hp, ho⟩
  · exact h
theorem binn_ok {mt : Nat → Bool} {c1 c2 : Nat → Nat} {p : Nat} {a : Nat × Nat × Nat} (h : bok3 a) (hp : p < 100) : ∀ o, o ≤ 100 → bok3 (binn mt c1 c2 p a o)
  | 0, _ => h
  | o + 1, ho => bstp_ok (binn_ok h hp o (by omega)) hp (by omega)
theorem bout_ok {mt : Nat → Bool} {c1 c2 : Nat → Nat} : ∀ p, p ≤ 100 → bok3 (bout mt c1 c2 p)
  | 0, _ => ⟨Nat.le_refl _, Nat.lt_of_lt_of_le (show 0 < 100 by decide) (Nat.le_refl _), Nat.lt_of_lt_of_le (show 0 < 100 by decide) (Nat.le_refl _)⟩
  | p + 1, hp => binn_ok (bout_ok p (by omega)) (by omega) 100 (Nat.le_refl _)
theorem binn_no {mt : Nat → Bool} {c1 c2 : Nat → Nat} {p : Nat} {a : Nat × Nat × Nat} (h : mt p = false) : ∀ o, binn mt c1 c2 p a o = a
  | 0 => rfl
  | o + 1 => by
    show bstp mt c1 c2 p o (binn mt c1 c2 p a o) = a
    rw [binn_no h o]
    unfold bstp
    rw [if_neg]
    rintro ⟨⟨q, -⟩, -⟩
    rw [h] at q
    cases q
/-- the class's cells of the best so far -/
def BC (σ : gS) (a : Nat × Nat × Nat) : Prop := σ.1 18 5 = nI a.1 ∧ (a.1 < 1000000 → σ.1 18 6 = nI a.2.1 ∧ σ.1 18 7 = nI a.2.2)
def c18 (c k : Nat) : Bool := (c == 18) && (k == 5 || k == 6 || k == 7)
theorem BS.c18 {σ τ : gS} {n W : Nat} {s K P : Nat → Nat} {B : Nat → Int32} (h : BS σ n s K P W B) (hF : Fr c18 σ τ) : BS τ n s K P W B := by
  obtain ⟨⟨⟨c1, c2⟩, c3⟩, c4, sale, c5, c6⟩ := h
  exact ⟨⟨⟨(hF.1 19 2 rfl).trans c1, (hF.1 19 3 rfl).trans c2⟩, fun j hj => ⟨(hF.1 20 j rfl).trans (c3 j hj).1, (hF.1 21 j rfl).trans (c3 j hj).2⟩⟩, fun j hj => (hF.1 26 j rfl).trans (c4 j hj), sale, (hF.1 18 2 rfl).trans c5, c6⟩
theorem Tother2 {σ : gS} {n W w1 w2 p : Nat} {s K P : Nat → Nat} {B : Nat → Int32} (h : BS σ n s K P W B) (hR : Rg n s K W) (hP : ∀ j, j < n → P j < 100) (hw1 : w1 < 6) (hw2 : w2 < 6) (hp : p < 100) (hm : mts2 n K p = true) {a : Nat × Nat × Nat} (ha : bok3 a) (hB : BC σ a) :
    ∃ τ, f_Br_findOther (nI p) (nI (cst2 s P w1 p)) (nI w2) σ = some τ ∧ BC τ (binn (mts2 n K) (cst2 s P w1) (cst2 s P w2) p a 100) ∧ Fr c18 σ τ := by
  have hct : ∀ w p, p < 100 → mts2 n K p = true → cst2 s P w p < 1000 := by
    intro w p hp hm
    have hm' := of_decide_eq_true hm
    have a := cst_le (s := s) (w := w) hP (show p / 10 < n by omega)
    have b := cst_le (s := s) (w := w) hP (show p % 10 < n by omega)
    unfold cst2
    omega
  unfold f_Br_findOther
  simp only [litE]
  refine loopG (fun fu i t => f_Br_findOther_L3 fu (nI p) (nI (cst2 s P w1 p)) (nI w2) (nI i) t) (fun o => ∃ τ, o = some τ ∧ BC τ (binn (mts2 n K) (cst2 s P w1) (cst2 s P w2) p a 100) ∧ Fr c18 σ τ) (fun i t => BC t (binn (mts2 n K) (cst2 s P w1) (cst2 s P w2) p a i) ∧ Fr c18 σ t) 100 0 σ (by omega) (by omega) ⟨hB, Fr.rf _ _⟩ ?_ ?_
  · rintro fu i t hi ⟨hb, hF⟩
    left
    have hbs := h.c18 hF
    have ok := binn_ok (mt := mts2 n K) (c1 := cst2 s P w1) (c2 := cst2 s P w2) ha hp i (by omega)
    have q1 : ¬ 100 ≤ i := by omega
    have hmi := Tmates hbs hR hi
    have hap := Tapart hp hi
    have c1lt := hct w1 p hp hm
    have hstep : binn (mts2 n K) (cst2 s P w1) (cst2 s P w2) p a (i + 1) = bstp (mts2 n K) (cst2 s P w1) (cst2 s P w2) p i (binn (mts2 n K) (cst2 s P w1) (cst2 s P w2) p a i) := rfl
    have hno : ¬ ((mts2 n K p = true ∧ mts2 n K i = true ∧ apt p i = true) ∧ cst2 s P w1 p + cst2 s P w2 i < (binn (mts2 n K) (cst2 s P w1) (cst2 s P w2) p a i).1) → BC t (binn (mts2 n K) (cst2 s P w1) (cst2 s P w2) p a (i + 1)) := fun q => by
      rw [hstep]
      unfold bstp
      rw [if_neg q]
      exact hb
    cases e1 : mts2 n K i with
    | false =>
      rw [e1] at hmi
      refine ⟨t, ?_, hno fun q => (by rw [e1] at q; exact absurd q.1.2.1 (by decide)), hF⟩
      simp (maxSteps := 2000000) (disch := omega) only [f_Br_findOther_L3, gupE, gltE, gllE, litE, litLE, bindE, ↓reduceIte, gsi_at, gsi_l2, gsl_at, gsl_i1, upd_at, updL_at, Nat.reduceEqDiff, gix_nI, nI_clamp, bI_0, bI_gzb, Bool.true_eq_false, Bool.false_eq_true, nI_leI, q1, hmi, nI_add]
    | true =>
      have c2lt := hct w2 i hi e1
      have hco := Tcost2 hbs hR hi e1 hw2
      rw [e1] at hmi
      cases e2 : apt p i with
      | false =>
        rw [e2] at hap
        refine ⟨t, ?_, hno fun q => (by rw [e2] at q; exact absurd q.1.2.2 (by decide)), hF⟩
        simp (maxSteps := 2000000) (disch := omega) only [f_Br_findOther_L3, gupE, gltE, gllE, litE, litLE, bindE, ↓reduceIte, gsi_at, gsi_l2, gsl_at, gsl_i1, upd_at, updL_at, Nat.reduceEqDiff, gix_nI, nI_clamp, bI_0, bI_gzb, Bool.true_eq_false, Bool.false_eq_true, nI_leI, q1, hmi, hap, nI_add]
      | true =>
        rw [e2] at hap
        have hl := ok.1
        by_cases q : cst2 s P w1 p + cst2 s P w2 i < (binn (mts2 n K) (cst2 s P w1) (cst2 s P w2) p a i).1
        · have q2 : ¬ (binn (mts2 n K) (cst2 s P w1) (cst2 s P w2) p a i).1 ≤ cst2 s P w1 p + cst2 s P w2 i := by omega
          refine ⟨gpi (gpi (gpi t 18 5 (nI (cst2 s P w1 p + cst2 s P w2 i))) 18 6 (nI p)) 18 7 (nI i), ?_, ?_, ((hF.pi rfl).pi rfl).pi rfl⟩
          · simp (maxSteps := 2000000) (disch := omega) only [f_Br_findOther_L3, gupE, gltE, gllE, litE, litLE, bindE, ↓reduceIte, gsi_at, gsi_l2, gsl_at, gsl_i1, upd_at, updL_at, Nat.reduceEqDiff, gix_nI, nI_clamp, bI_0, bI_gzb, Bool.true_eq_false, Bool.false_eq_true, nI_leI, q1, hmi, hap, hco, nI_add, hb.1, q2]
          · rw [hstep]
            unfold bstp
            rw [if_pos ⟨⟨hm, e1, e2⟩, q⟩]
            refine ⟨?_, fun _ => ⟨?_, ?_⟩⟩
            · rw [gpi_at, if_neg (by omega), gpi_at, if_neg (by omega), gpi_at, if_pos ⟨rfl, rfl⟩]
            · rw [gpi_at, if_neg (by omega), gpi_at, if_pos ⟨rfl, rfl⟩]
            · rw [gpi_at, if_pos ⟨rfl, rfl⟩]
        · have q2 : (binn (mts2 n K) (cst2 s P w1) (cst2 s P w2) p a i).1 ≤ cst2 s P w1 p + cst2 s P w2 i := by omega
          refine ⟨t, ?_, hno fun z => q z.2, hF⟩
          simp (maxSteps := 2000000) (disch := omega) only [f_Br_findOther_L3, gupE, gltE, gllE, litE, litLE, bindE, ↓reduceIte, gsi_at, gsi_l2, gsl_at, gsl_i1, upd_at, updL_at, Nat.reduceEqDiff, gix_nI, nI_clamp, bI_0, bI_gzb, Bool.true_eq_false, Bool.false_eq_true, nI_leI, q1, hmi, hap, hco, nI_add, hb.1, q2]
  · rintro fu t ⟨hb, hF⟩
    have q1 : nI 100 ≤ nI 100 := Int32.le_refl _
    refine ⟨t, ?_, hb, hF⟩
    simp (maxSteps := 2000000) (disch := omega) only [f_Br_findOther_L3, gupE, gltE, gllE, litE, litLE, bindE, ↓reduceIte, gsi_at, gsi_l2, gsl_at, gsl_i1, upd_at, updL_at, Nat.reduceEqDiff, gix_nI, nI_clamp, bI_0, bI_gzb, Bool.true_eq_false, Bool.false_eq_true, q1]
theorem Tfind2 {σ : gS} {n W w1 w2 : Nat} {s K P : Nat → Nat} {B : Nat → Int32} (h : BS σ n s K P W B) (hR : Rg n s K W) (hP : ∀ j, j < n → P j < 100) (hw1 : w1 < 6) (hw2 : w2 < 6) :
    ∃ τ, f_Br_findTwoPairs (nI w1) (nI w2) σ = some (bI (decide ((bout (mts2 n K) (cst2 s P w1) (cst2 s P w2) 100).1 < 1000000)), τ) ∧ BC τ (bout (mts2 n K) (cst2 s P w1) (cst2 s P w2) 100) ∧ Fr c18 σ τ := by
  have hs0 : f_Br_findTwoPairs (nI w1) (nI w2) σ = f_Br_findTwoPairs_L8 gfu (nI w1) (nI w2) (nI 0) (gpi σ 18 5 (nI 1000000)) := by
    unfold f_Br_findTwoPairs
    rw [gupE]
    rfl
  rw [hs0]
  refine loopG (fun fu i t => f_Br_findTwoPairs_L8 fu (nI w1) (nI w2) (nI i) t) (fun o => ∃ τ, o = some (bI (decide ((bout (mts2 n K) (cst2 s P w1) (cst2 s P w2) 100).1 < 1000000)), τ) ∧ BC τ (bout (mts2 n K) (cst2 s P w1) (cst2 s P w2) 100) ∧ Fr c18 σ τ) (fun i t => BC t (bout (mts2 n K) (cst2 s P w1) (cst2 s P w2) i) ∧ Fr c18 σ t) 100 0 _ (by omega) (by omega) ⟨⟨by rw [gpi_at, if_pos ⟨rfl, rfl⟩]; rfl, fun q => absurd q (by show ¬ 1000000 < 1000000; omega)⟩, (Fr.rf _ σ).pi rfl⟩ ?_ ?_
  · rintro fu i t hi ⟨hb, hF⟩
    left
    have hbs := h.c18 hF
    have ok := bout_ok (mt := mts2 n K) (c1 := cst2 s P w1) (c2 := cst2 s P w2) i (by omega)
    have q1 : ¬ 100 ≤ i := by omega
    have hmi := Tmates hbs hR hi
    cases e1 : mts2 n K i with
    | false =>
      rw [e1] at hmi
      refine ⟨t, ?_, ?_, hF⟩
      · simp (maxSteps := 2000000) (disch := omega) only [f_Br_findTwoPairs_L8, gupE, gltE, gllE, litE, litLE, bindE, ↓reduceIte, gsi_at, gsi_l2, gsl_at, gsl_i1, upd_at, updL_at, Nat.reduceEqDiff, gix_nI, nI_clamp, bI_0, bI_gzb, Bool.true_eq_false, Bool.false_eq_true, nI_leI, q1, hmi, nI_add]
      · show BC t (binn (mts2 n K) (cst2 s P w1) (cst2 s P w2) i (bout (mts2 n K) (cst2 s P w1) (cst2 s P w2) i) 100)
        rw [binn_no e1]
        exact hb
    | true =>
      rw [e1] at hmi
      have hco := Tcost2 hbs hR hi e1 hw1
      obtain ⟨τ, f1, f2, f3⟩ := Tother2 hbs hR hP hw1 hw2 hi e1 ok hb
      refine ⟨τ, ?_, f2, hF.tr f3⟩
      simp (maxSteps := 2000000) (disch := omega) only [f_Br_findTwoPairs_L8, gupE, gltE, gllE, litE, litLE, bindE, ↓reduceIte, gsi_at, gsi_l2, gsl_at, gsl_i1, upd_at, updL_at, Nat.reduceEqDiff, gix_nI, nI_clamp, bI_0, bI_gzb, Bool.true_eq_false, Bool.false_eq_true, nI_leI, q1, hmi, hco, f1, nI_add]
  · rintro fu t ⟨hb, hF⟩
    have ok := bout_ok (mt := mts2 n K) (c1 := cst2 s P w1) (c2 := cst2 s P w2) 100 (by omega)
    have hl := ok.1
    have q1 : nI 100 ≤ nI 100 := Int32.le_refl _
    refine ⟨t, ?_, hb, hF⟩
    by_cases q : (bout (mts2 n K) (cst2 s P w1) (cst2 s P w2) 100).1 < 1000000
    · have q2 : ¬ 1000000 ≤ (bout (mts2 n K) (cst2 s P w1) (cst2 s P w2) 100).1 := by omega
      rw [decide_eq_true q]
      simp (maxSteps := 2000000) (disch := omega) only [f_Br_findTwoPairs_L8, gupE, gltE, gllE, litE, litLE, bindE, ↓reduceIte, gsi_at, gsi_l2, gsl_at, gsl_i1, upd_at, updL_at, Nat.reduceEqDiff, gix_nI, nI_clamp, bI_0, bI_gzb, Bool.true_eq_false, Bool.false_eq_true, q1, hb.1, nI_leI, q2]
      rfl
    · have q2 : 1000000 ≤ (bout (mts2 n K) (cst2 s P w1) (cst2 s P w2) 100).1 := by omega
      rw [decide_eq_false q]
      simp (maxSteps := 2000000) (disch := omega) only [f_Br_findTwoPairs_L8, gupE, gltE, gllE, litE, litLE, bindE, ↓reduceIte, gsi_at, gsi_l2, gsl_at, gsl_i1, upd_at, updL_at, Nat.reduceEqDiff, gix_nI, nI_clamp, bI_0, bI_gzb, Bool.true_eq_false, Bool.false_eq_true, q1, hb.1, nI_leI, q2]
      rfl
def wo1 (a : Nat × Nat × Nat) : Int32 := if a.1 < 1000000 then nI a.2.1 else -nI 2
def wo2 (a : Nat × Nat × Nat) : Int32 := if a.1 < 1000000 then nI a.2.2 else -nI 2
theorem Mboth_in {σ : gS} {n W w1 w2 p t : Nat} {s K P : Nat → Nat} {v : Int32} (hM : MS σ n s K W) (hMP : MP σ n P) (hR : Rg n s K W) (hqv : v / nI 10 = nI w1) (hrv : grem v (nI 10) = nI w2) (hw1 : w1 < 6) (hw2 : w2 < 6) (hp : p < 100) {a : Nat × Nat × Nat} (ha : bok3 a) (k69 : Int32 → Int32 → Int32 → Int32 → Int32 → Int32 → gS → Option (Int32 × gS)) :
    f_M_payBoth_L79 k69 gfu v (nI t) (nI a.1) (wo1 a) (wo2 a) (nI p) (nI 0) σ = k69 v (nI t) (nI (binn (mts2 n K) (cst2 s P w1) (cst2 s P w2) p a 100).1) (wo1 (binn (mts2 n K) (cst2 s P w1) (cst2 s P w2) p a 100)) (wo2 (binn (mts2 n K) (cst2 s P w1) (cst2 s P w2) p a 100)) (nI (p + 1)) σ := by
  have hn := hR.1
  have e6 := hM.1.1
  have hPP : ∀ j, j < n → P j < 100 := fun j hj => (hMP j hj).2
  refine loopG (fun fu i (_ : Nat) => f_M_payBoth_L79 k69 fu v (nI t) (nI (binn (mts2 n K) (cst2 s P w1) (cst2 s P w2) p a i).1) (wo1 (binn (mts2 n K) (cst2 s P w1) (cst2 s P w2) p a i)) (wo2 (binn (mts2 n K) (cst2 s P w1) (cst2 s P w2) p a i)) (nI p) (nI i) σ) (fun o => o = k69 v (nI t) (nI (binn (mts2 n K) (cst2 s P w1) (cst2 s P w2) p a 100).1) (wo1 (binn (mts2 n K) (cst2 s P w1) (cst2 s P w2) p a 100)) (wo2 (binn (mts2 n K) (cst2 s P w1) (cst2 s P w2) p a 100)) (nI (p + 1)) σ) (fun _ _ => True) 100 0 0 (by omega) (by omega) trivial ?_ ?_
  · intro fu i _ hi _
    left
    refine ⟨0, ?_, trivial⟩
    have ok := binn_ok (mt := mts2 n K) (c1 := cst2 s P w1) (c2 := cst2 s P w2) ha hp i (by omega)
    have hl := ok.1
    have q1 : ¬ 100 ≤ i := by omega
    obtain ⟨acc, hacc⟩ : ∃ acc, acc = binn (mts2 n K) (cst2 s P w1) (cst2 s P w2) p a i := ⟨_, rfl⟩
    have hstep : binn (mts2 n K) (cst2 s P w1) (cst2 s P w2) p a (i + 1) = bstp (mts2 n K) (cst2 s P w1) (cst2 s P w2) p i acc := by rw [hacc]; rfl
    rw [hstep, ← hacc]
    rw [← hacc] at hl
    have dp := d10 hp
    have rp := r10 hp
    have di := d10 hi
    have ri := r10 hi
    have hno : ¬ (mts2 n K p = true ∧ mts2 n K i = true ∧ apt p i = true) → bstp (mts2 n K) (cst2 s P w1) (cst2 s P w2) p i acc = acc := fun q => if_neg fun z => q z.1
    have noM : ∀ p, (¬ p / 10 < p % 10 ∨ ¬ p % 10 < n) → ¬ mts2 n K p = true := fun p q z => by
      have := of_decide_eq_true z
      omega
    obtain ⟨A1, hA1⟩ : ∃ A1, A1 = wo1 acc := ⟨_, rfl⟩
    obtain ⟨A2, hA2⟩ : ∃ A2, A2 = wo2 acc := ⟨_, rfl⟩
    obtain ⟨J, hJ⟩ : ∃ J, J = f_M_payBoth_L79 k69 fu v (nI t) (nI acc.1) A1 A2 (nI p) (nI (i + 1)) σ := ⟨_, rfl⟩
    have hJ8 : ∀ x15 x16 x17 x18, f_M_payBoth_j178 k69 (fun v1 v2 v3 v4 v5 v6 v7 σ => f_M_payBoth_L79 k69 fu v1 v2 v3 v4 v5 v6 v7 σ) v (nI t) (nI acc.1) A1 A2 (nI p) (nI i) x15 x16 x17 x18 σ = J := by
      intro x15 x16 x17 x18
      unfold f_M_payBoth_j178 f_M_payBoth_j179
      rw [if_pos rfl, hJ, litE, nI_add]
    have hun : f_M_payBoth_L79 k69 (fu + 1) v (nI t) (nI acc.1) A1 A2 (nI p) (nI i) σ = if nI (p % 10) ≤ nI (p / 10) then J else if nI n ≤ nI (p % 10) then J else if nI (i % 10) ≤ nI (i / 10) then J else if nI n ≤ nI (i % 10) then J else if nI (p / 10) = nI (i / 10) then J else if nI (p / 10) = nI (i % 10) then J else if nI (p % 10) = nI (i / 10) then J else if nI (p % 10) = nI (i % 10) then J else f_M_payBoth_j179 k69 (fun v1 v2 v3 v4 v5 v6 v7 σ => f_M_payBoth_L79 k69 fu v1 v2 v3 v4 v5 v6 v7 σ) v (nI t) (nI acc.1) A1 A2 (nI p) (nI i) (nI (p / 10)) (nI (p % 10)) (nI (i / 10)) (nI (i % 10)) (nI 1) σ := by
      have h100 : ¬ (100 : Int32) ≤ nI i := by
        intro z
        exact q1 ((nI_leI (a := 100) (b := i) (by omega) (by omega)).mp z)
      rw [f_M_payBoth_L79, if_neg h100, gltE, gltE, gltE, gltE, show nI p / 10 = nI (p / 10) from dp, show grem (nI p) 10 = nI (p % 10) from rp, show nI i / 10 = nI (i / 10) from di, show grem (nI i) 10 = nI (i % 10) from ri, e6]
      simp only [hJ8]
      rfl
    rw [← hA1, ← hA2, hun]
    have skip : bstp (mts2 n K) (cst2 s P w1) (cst2 s P w2) p i acc = acc → J = f_M_payBoth_L79 k69 fu v (nI t) (nI (bstp (mts2 n K) (cst2 s P w1) (cst2 s P w2) p i acc).1) (wo1 (bstp (mts2 n K) (cst2 s P w1) (cst2 s P w2) p i acc)) (wo2 (bstp (mts2 n K) (cst2 s P w1) (cst2 s P w2) p i acc)) (nI p) (nI (i + 1)) σ := fun q => by
      rw [q, hJ, hA1, hA2]
    by_cases a1 : p % 10 ≤ p / 10
    · rw [if_pos (nI_le a1 (by omega))]
      exact skip (hno fun z => noM p (by omega) z.1)
    · rw [if_neg (nI_ge (a := p / 10) (b := p % 10) (by omega) (by omega))]
      by_cases a2 : n ≤ p % 10
      · rw [if_pos (nI_le a2 (by omega))]
        exact skip (hno fun z => noM p (by omega) z.1)
      · rw [if_neg (nI_ge (a := p % 10) (b := n) (by omega) (by omega))]
        by_cases a3 : i % 10 ≤ i / 10
        · rw [if_pos (nI_le a3 (by omega))]
          exact skip (hno fun z => noM i (by omega) z.2.1)
        · rw [if_neg (nI_ge (a := i / 10) (b := i % 10) (by omega) (by omega))]
          by_cases a4 : n ≤ i % 10
          · rw [if_pos (nI_le a4 (by omega))]
            exact skip (hno fun z => noM i (by omega) z.2.1)
          · rw [if_neg (nI_ge (a := i % 10) (b := n) (by omega) (by omega))]
            have ne : ∀ x y : Nat, x < 100 → y < 100 → ¬ x = y → ¬ nI x = nI y := fun x y hx hy q => by rw [nI_eq (by omega) (by omega)]; exact q
            by_cases b1 : p / 10 = i / 10
            · rw [if_pos (by rw [b1])]
              exact skip (hno fun z => (of_decide_eq_true z.2.2).1 b1)
            · rw [if_neg (ne _ _ (by omega) (by omega) b1)]
              by_cases b2 : p / 10 = i % 10
              · rw [if_pos (by rw [b2])]
                exact skip (hno fun z => (of_decide_eq_true z.2.2).2.1 b2)
              · rw [if_neg (ne _ _ (by omega) (by omega) b2)]
                by_cases b3 : p % 10 = i / 10
                · rw [if_pos (by rw [b3])]
                  exact skip (hno fun z => (of_decide_eq_true z.2.2).2.2.1 b3)
                · rw [if_neg (ne _ _ (by omega) (by omega) b3)]
                  by_cases b4 : p % 10 = i % 10
                  · rw [if_pos (by rw [b4])]
                    exact skip (hno fun z => (of_decide_eq_true z.2.2).2.2.2 b4)
                  · rw [if_neg (ne _ _ (by omega) (by omega) b4)]
                    have a5 : apt p i = true := decide_eq_true ⟨b1, b2, b3, b4⟩
                    have k1 := (hM.2 (p / 10) (by omega)).2
                    have k2 := (hM.2 (p % 10) (by omega)).2
                    have k3 := (hM.2 (i / 10) (by omega)).2
                    have k4 := (hM.2 (i % 10) (by omega)).2
                    have l1 := hR.sk (j := p / 10) (by omega)
                    have l2 := hR.sk (j := p % 10) (by omega)
                    have l3 := hR.sk (j := i / 10) (by omega)
                    have l4 := hR.sk (j := i % 10) (by omega)
                    have g1 := Mcost hM hMP hR (show p / 10 < n by omega) hw1
                    have g2 := Mcost hM hMP hR (show p % 10 < n by omega) hw1
                    have g3 := Mcost hM hMP hR (show i / 10 < n by omega) hw2
                    have g4 := Mcost hM hMP hR (show i % 10 < n by omega) hw2
                    have u1 := cst_le (s := s) (w := w1) hPP (show p / 10 < n by omega)
                    have u2 := cst_le (s := s) (w := w1) hPP (show p % 10 < n by omega)
                    have u3 := cst_le (s := s) (w := w2) hPP (show i / 10 < n by omega)
                    have u4 := cst_le (s := s) (w := w2) hPP (show i % 10 < n by omega)
                    have h10 : ¬ nI 1 = 0 := by decide
                    have x1 := gix_nI (k := p / 10) (m := 43) (by omega) (by decide)
                    have x2 := gix_nI (k := p % 10) (m := 43) (by omega) (by decide)
                    have x3 := gix_nI (k := i / 10) (m := 43) (by omega) (by decide)
                    have x4 := gix_nI (k := i % 10) (m := 43) (by omega) (by decide)
                    unfold f_M_payBoth_j179
                    rw [if_neg h10, if_pos x1, if_pos x2, nI_clamp (show p / 10 < 2 ^ 31 by omega), nI_clamp (show p % 10 < 2 ^ 31 by omega), k1, k2]
                    have m80 : f_M_payBoth_L79 k69 fu v (nI t) (nI acc.1) A1 A2 (nI p) (nI i + 1) σ = J := by rw [hJ, litE, nI_add]
                    by_cases a6 : K (p / 10) = K (p % 10)
                    · rw [if_pos (by rw [a6])]
                      exact m80.trans (skip (hno fun z => (of_decide_eq_true z.1).2.2 a6))
                    · rw [if_neg (ne _ _ (by omega) (by omega) a6), if_pos x3, if_pos x4, nI_clamp (show i / 10 < 2 ^ 31 by omega), nI_clamp (show i % 10 < 2 ^ 31 by omega), k3, k4]
                      by_cases a7 : K (i / 10) = K (i % 10)
                      · rw [if_pos (by rw [a7])]
                        exact m80.trans (skip (hno fun z => (of_decide_eq_true z.2.1).2.2 a7))
                      · have m1 : mts2 n K p = true := decide_eq_true ⟨by omega, by omega, a6⟩
                        have m2 : mts2 n K i = true := decide_eq_true ⟨by omega, by omega, a7⟩
                        have hsum : cst s P w1 (p / 10) + cst s P w1 (p % 10) + cst s P w2 (i / 10) + cst s P w2 (i % 10) = cst2 s P w1 p + cst2 s P w2 i := by
                          unfold cst2
                          omega
                        rw [if_neg (ne _ _ (by omega) (by omega) a7), show v / 10 = nI w1 from hqv, show grem v 10 = nI w2 from hrv, g1, bindE, g2, bindE, g3, bindE, g4, bindE, gltE, nI_add, nI_add, nI_add, hsum]
                        have cl : cst2 s P w1 p + cst2 s P w2 i < 1000 := by rw [← hsum]; omega
                        by_cases a8 : cst2 s P w1 p + cst2 s P w2 i < acc.1
                        · have hs : bstp (mts2 n K) (cst2 s P w1) (cst2 s P w2) p i acc = (cst2 s P w1 p + cst2 s P w2 i, p, i) := if_pos ⟨⟨m1, m2, a5⟩, a8⟩
                          have w1e : wo1 (cst2 s P w1 p + cst2 s P w2 i, p, i) = nI p := if_pos (show cst2 s P w1 p + cst2 s P w2 i < 1000000 by omega)
                          have w2e : wo2 (cst2 s P w1 p + cst2 s P w2 i, p, i) = nI i := if_pos (show cst2 s P w1 p + cst2 s P w2 i < 1000000 by omega)
                          rw [hs, w1e, w2e, if_neg (nI_ge a8 (by omega)), litE, nI_add]
                        · rw [if_pos (nI_le (by omega) (by omega))]
                          exact m80.trans (skip (if_neg fun z => a8 z.2))
  · intro fu _ _
    have q1 : nI 100 ≤ nI 100 := Int32.le_refl _
    simp (disch := omega) only [f_M_payBoth_L79, litE, ↓reduceIte, q1, nI_add]
theorem Mboth_L {σ : gS} {n W w1 w2 t : Nat} {s K P : Nat → Nat} {v : Int32} (hM : MS σ n s K W) (hMP : MP σ n P) (hR : Rg n s K W) (hqv : v / nI 10 = nI w1) (hrv : grem v (nI 10) = nI w2) (hw1 : w1 < 6) (hw2 : w2 < 6) (ht : t < 3) :
    f_M_payBoth_L69 gfu v (nI t) (nI 1000000) (-nI 2) (-nI 2) (nI 0) σ = some (if (bout (mts2 n K) (cst2 s P w1) (cst2 s P w2) 100).1 < 1000000 then (if t = 0 then nI (bout (mts2 n K) (cst2 s P w1) (cst2 s P w2) 100).1 else if t = 1 then nI (bout (mts2 n K) (cst2 s P w1) (cst2 s P w2) 100).2.1 else nI (bout (mts2 n K) (cst2 s P w1) (cst2 s P w2) 100).2.2) else -nI 2, σ) := by
  refine loopG (fun fu i (_ : Nat) => f_M_payBoth_L69 fu v (nI t) (nI (bout (mts2 n K) (cst2 s P w1) (cst2 s P w2) i).1) (wo1 (bout (mts2 n K) (cst2 s P w1) (cst2 s P w2) i)) (wo2 (bout (mts2 n K) (cst2 s P w1) (cst2 s P w2) i)) (nI i) σ) (fun o => o = some (if (bout (mts2 n K) (cst2 s P w1) (cst2 s P w2) 100).1 < 1000000 then (if t = 0 then nI (bout (mts2 n K) (cst2 s P w1) (cst2 s P w2) 100).1 else if t = 1 then nI (bout (mts2 n K) (cst2 s P w1) (cst2 s P w2) 100).2.1 else nI (bout (mts2 n K) (cst2 s P w1) (cst2 s P w2) 100).2.2) else -nI 2, σ)) (fun _ _ => True) 100 0 0 (by omega) (by omega) trivial ?_ ?_
  · intro fu i _ hi _
    left
    refine ⟨0, ?_, trivial⟩
    have ok := bout_ok (mt := mts2 n K) (c1 := cst2 s P w1) (c2 := cst2 s P w2) i (by omega)
    have h := Mboth_in (t := t) hM hMP hR hqv hrv hw1 hw2 hi ok (fun v1 v2 v3 v4 v5 v6 σ => f_M_payBoth_L69 fu v1 v2 v3 v4 v5 v6 σ)
    have q1 : ¬ (100 : Int32) ≤ nI i := by
      intro z
      have := (nI_leI (a := 100) (b := i) (by omega) (by omega)).mp z
      omega
    rw [f_M_payBoth_L69, if_neg q1]
    exact h
  · intro fu _ _
    have ok := bout_ok (mt := mts2 n K) (c1 := cst2 s P w1) (c2 := cst2 s P w2) 100 (by omega)
    obtain ⟨acc, hacc⟩ : ∃ acc, acc = bout (mts2 n K) (cst2 s P w1) (cst2 s P w2) 100 := ⟨_, rfl⟩
    rw [← hacc] at ok ⊢
    rw [f_M_payBoth_L69, if_pos (show (100 : Int32) ≤ nI 100 from Int32.le_refl _)]
    unfold wo1 wo2
    by_cases q : acc.1 < 1000000
    · rw [if_pos q, if_pos q, if_pos q, if_pos (show (0 : Int32) ≤ nI acc.2.1 from nI_pos' (by have := ok.2.1; omega))]
      have : t = 0 ∨ t = 1 ∨ t = 2 := by omega
      rcases this with rfl | rfl | rfl
      · rw [if_pos (show nI 0 = 0 from rfl), if_pos rfl]
      · rw [if_neg (show ¬ nI 1 = 0 by decide), if_pos (show nI 1 = 1 from rfl), if_neg (by decide), if_pos rfl]
      · rw [if_neg (show ¬ nI 2 = 0 by decide), if_neg (show ¬ nI 2 = 1 by decide), if_neg (by decide), if_neg (by decide)]
    · rw [if_neg q, if_neg q, if_neg q, if_neg (show ¬ (0 : Int32) ≤ -nI 2 by decide)]
      rfl
theorem ag_payBoth (v1 v2 : Int32) : Agr (f_T_payBoth v1 v2) (f_M_payBoth v1 v2) := by
  refine agr_q fun σ n K E P B F W D m V h => ?_
  have hn := h.1.1.1
  have hr := h.rg
  have hPP : ∀ j, j < n → P j < 100 := fun j hj => (h.1.2.1 j hj).1.2.2.1
  unfold f_T_payBoth f_M_payBoth
  cases h2 : two v1 6 with
  | false =>
    refine ⟨-nI 1, ⟨σ, ?_, Fr.rf _ _⟩, fun τ hF hC => ⟨τ, ?_, Fr.rf _ _⟩⟩
    · rw [show f_T_areTwo v1 6 = some (bI false) by rw [← h2]; exact areTwo_eq v1 (by decide), bindE, if_pos (show bI false = 0 from rfl)]
      rfl
    · by_cases h0 : v1.toInt < 0
      · have hlt : v1 < 0 := by
          show v1 < nI 0
          rw [lt0_iff]
          exact h0
        rw [if_pos hlt]
        rfl
      · obtain ⟨j, hj, rfl⟩ := nonneg_nI (v := v1) (by omega)
        have hlt : ¬ nI j < 0 := nI_pos (by omega)
        rw [two_nI hj] at h2
        have e1 : nI j / 10 = nI (j / 10) := pk_div (d := 10) (by omega) (by decide) (by decide)
        have e2 : grem (nI j) 10 = nI (j % 10) := grem_nI (d := 10) hj (by decide) (by decide)
        rw [if_neg hlt, e1, e2, isWeather_eq, inb_nI (by omega), bindE]
        by_cases q1 : j / 10 < 6
        · rw [decide_eq_true q1] at h2 ⊢
          have q2 : decide (j % 10 < 6) = false := by simpa using h2
          rw [if_neg (by decide), isWeather_eq, inb_nI (by omega), q2, bindE, if_pos (by decide)]
          rfl
        · rw [decide_eq_false q1, if_pos (by decide)]
          rfl
  | true =>
    obtain ⟨w1, w2, hw1, hw2, hvv, hqv, hrv⟩ := two_of (by decide) h2
    have hat : f_T_areTwo v1 6 = some (bI true) := by rw [← h2]; exact areTwo_eq v1 (by decide)
    have hq' : v1 / 10 = nI w1 := hqv
    have hr' : grem v1 10 = nI w2 := hrv
    have hlt : ¬ v1 < 0 := by rw [hvv]; exact nI_pos (by omega)
    have i1 : f_M_isWeather (nI w1).toInt64 = some (bI true) := by rw [isWeather_eq, inb_nI (by omega), decide_eq_true hw1]
    have i2 : f_M_isWeather (nI w2).toInt64 = some (bI true) := by rw [isWeather_eq, inb_nI (by omega), decide_eq_true hw2]
    by_cases hww : w1 = w2
    · subst hww
      refine ⟨-nI 1, ⟨σ, ?_, Fr.rf _ _⟩, fun τ hF hC => ⟨τ, ?_, Fr.rf _ _⟩⟩
      · rw [hat, bindE, if_neg (by decide), hq', hr', if_pos rfl]
        rfl
      · rw [if_neg hlt, hq', hr', i1, bindE, if_neg (by decide), bindE, if_neg (by decide), if_pos rfl]
        rfl
    · have hne : ¬ nI w1 = nI w2 := by rw [nI_eq (by omega) (by omega)]; exact hww
      cases hv2 : inb v2 3 with
      | false =>
        refine ⟨-nI 1, ⟨σ, ?_, Fr.rf _ _⟩, fun τ hF hC => ⟨τ, ?_, Fr.rf _ _⟩⟩
        · rw [hat, bindE, if_neg (by decide), hq', hr', if_neg hne, show f_T_within v2 3 = some (bI false) from w3_f hv2 (by decide), bindE, if_pos (by decide)]
          rfl
        · rw [if_neg hlt, hq', hr', i1, bindE, if_neg (by decide), i2, bindE, if_neg (by decide), if_neg hne, show f_M_within v2.toInt64 0 2 = some (bI false) from m3_f hv2 (by decide), bindE, if_pos (by decide)]
          rfl
      | true =>
        obtain ⟨t, ht, rfl⟩ := inb_of hv2 (by omega)
        obtain ⟨s, a1, a2, a3⟩ := Tbegin h
        obtain ⟨τ1, b1, b2, b4⟩ := Tfind2 a2 hr hPP hw1 hw2
        have F2 : Frs s τ1 := b4.sub fun c k q => by
          cases e : c18 c k with
          | false => rfl
          | true =>
            unfold c18 at e
            simp only [Bool.or_eq_true, Bool.and_eq_true, beq_iff_eq] at e
            rcases e with ⟨rfl, (rfl | rfl) | rfl⟩ <;> exact absurd q (by decide)
        refine ⟨if (bout (mts2 n K) (cst2 (sy V K E P B F D) P w1) (cst2 (sy V K E P B F D) P w2) 100).1 < 1000000 then (if t = 0 then nI (bout (mts2 n K) (cst2 (sy V K E P B F D) P w1) (cst2 (sy V K E P B F D) P w2) 100).1 else if t = 1 then nI (bout (mts2 n K) (cst2 (sy V K E P B F D) P w1) (cst2 (sy V K E P B F D) P w2) 100).2.1 else nI (bout (mts2 n K) (cst2 (sy V K E P B F D) P w1) (cst2 (sy V K E P B F D) P w2) 100).2.2) else -nI 2, ⟨τ1, ?_, a3.tr F2⟩, fun τ hF hC => ?_⟩
        · rw [hat, bindE, if_neg (by decide), hq', hr', if_neg hne, show f_T_within (nI t) 3 = some (bI true) from w3_t hv2 (by decide), bindE, if_neg (by decide), a1, bindE, b1, bindE]
          by_cases q : (bout (mts2 n K) (cst2 (sy V K E P B F D) P w1) (cst2 (sy V K E P B F D) P w2) 100).1 < 1000000
          · rw [decide_eq_true q, if_neg (show ¬ bI true = 0 by decide), if_pos q]
            have : t = 0 ∨ t = 1 ∨ t = 2 := by omega
            rcases this with rfl | rfl | rfl
            · rw [if_pos (show nI 0 = 0 from rfl), if_pos rfl]
              simp only [b2.1]
            · rw [if_neg (show ¬ nI 1 = 0 by decide), if_pos (show nI 1 = 1 from rfl), if_neg (by decide), if_pos rfl]
              simp only [(b2.2 q).1]
            · rw [if_neg (show ¬ nI 2 = 0 by decide), if_neg (show ¬ nI 2 = 1 by decide), if_neg (by decide), if_neg (by decide)]
              simp only [(b2.2 q).2]
          · rw [decide_eq_false q, if_pos (show bI false = 0 by decide), if_neg q]
            rfl
        · obtain ⟨υ, c1, c2, c3⟩ := Snow hC
          have hMP : MP υ n P := fun j hj => ⟨(c3.1 60 (20 + j) rfl).trans (hC.1.2.1 j hj).2.2.2.2.1, hPP j hj⟩
          have hL := Mboth_L c2 hMP hr hqv hrv hw1 hw2 ht
          refine ⟨υ, ?_, c3⟩
          rw [if_neg hlt, hq', hr', i1, bindE, if_neg (by decide), i2, bindE, if_neg (by decide), if_neg hne, show f_M_within (nI t).toInt64 0 2 = some (bI true) from m3_t hv2 (by decide), bindE, if_neg (by decide), c1, bindE, ← hL]
          rfl
