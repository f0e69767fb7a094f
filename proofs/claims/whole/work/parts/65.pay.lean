/-! pure: pay -/
/-- what begin() leaves -/
def BS (σ : gS) (n : Nat) (s K P : Nat → Nat) (W : Nat) (B : Nat → Int32) : Prop := CS 19 σ n s K W ∧ (∀ j, j < n → σ.1 26 j = nI (P j)) ∧ ∃ sale, σ.1 18 2 = nI sale ∧ Bits sale (fun j => j < n ∧ (B j).toInt < 0)
theorem Tbegin {σ : gS} {n : Nat} {K E P : Nat → Nat} {B : Nat → Int32} {F W D m : Nat} {V : VT} (h : Ctx σ n K E P B F W D m V) :
    ∃ τ, f_Br_begin σ = some τ ∧ BS τ n (sy V K E P B F D) K P W B ∧ Frs σ τ := by
  obtain ⟨s, e1, e2, e3⟩ := Gnow (Or.inr rfl) h
  have hn := h.1.1.1
  have hb : f_Br_begin σ = f_Br_begin_L15 gfu (nI 0) (gpi s 18 2 (nI 0)) := by
    unfold f_Br_begin
    rw [e1, bindE, gupE]
    rfl
  rw [hb]
  have hF0 : Frs s (gpi s 18 2 (nI 0)) := (Fr.rf _ s).pi rfl
  have f18 : Fr (fun c k => (c == 18) && (k == 2) || c == 26) s (gpi s 18 2 (nI 0)) := (Fr.rf _ s).pi rfl
  refine loopG (fun fu i a => f_Br_begin_L15 fu (nI i) a) (fun o => ∃ τ, o = some τ ∧ BS τ n (sy V K E P B F D) K P W B ∧ Frs σ τ) (fun i a => Fr (fun c k => (c == 18) && (k == 2) || c == 26) s a ∧ (∀ j, j < i → a.1 26 j = nI (P j)) ∧ ∃ sale, sale < 1024 ∧ a.1 18 2 = nI sale ∧ Bits sale (fun j => j < i ∧ (B j).toInt < 0)) n 0 (gpi s 18 2 (nI 0)) (by omega) (by omega) ⟨f18, fun j q => absurd q (Nat.not_lt_zero j), 0, by decide, by rw [gpi_at, if_pos ⟨rfl, rfl⟩], Bits.zero.cg fun j => ⟨False.elim, fun q => absurd q.1 (Nat.not_lt_zero j)⟩⟩ ?_ ?_
  · rintro fu i a hi ⟨hF, h1, sale, h4, h2, h3⟩
    left
    have u19 : a.1 19 2 = nI n := (hF.1 19 2 rfl).trans e2.1.1
    have hC := (h.fr e3).1.2.1 i hi
    have u4 : a.1 4 i = nI (P i) := (hF.1 4 i rfl).trans hC.2.1.2.2.1
    have u5 : a.1 5 i = B i := (hF.1 5 i rfl).trans hC.2.1.2.2.2
    have q1 : ¬ n ≤ i := by omega
    have hsl : sale ||| 2 ^ i < 1024 := Nat.or_lt_two_pow (n := 10) h4 (Nat.pow_lt_pow_right (by decide) (by omega))
    rcases bok_c hC.1.2.2.2 with ⟨b1, b2, b3⟩ | ⟨w, b1, b2, b3, b4⟩
    · have nle : ¬ nI 0 ≤ B i := by rw [i_le, nI_toInt (by decide)]; omega
      refine ⟨gpi (gpi a 26 i (nI (P i))) 18 2 (nI (sale ||| 2 ^ i)), ?_, (hF.pi rfl).pi rfl, fun j hj => ?_, sale ||| 2 ^ i, hsl, by rw [gpi_at, if_pos ⟨rfl, rfl⟩], h3.or.cg fun j => ⟨?_, ?_⟩⟩
      · simp (maxSteps := 2000000) (disch := omega) only [f_Br_begin_L15, f_Br_begin_j59, gupE, gltE, gllE, litE, litLE, bindE, ↓reduceIte, gsi_at, gsi_l2, gsl_at, gsl_i1, upd_at, updL_at, Nat.reduceEqDiff, gix_nI, nI_clamp, bI_0, bI_gzb, Bool.true_eq_false, Bool.false_eq_true, u19, nI_leI, q1, u4, u5, nle, h2, sh1, nI_or, nI_add]
      · rw [gpi_at, if_neg (by omega), gpi_at]
        by_cases q : j = i
        · rw [if_pos ⟨rfl, q⟩, q]
        · rw [if_neg fun z => q z.2]
          exact h1 j (by omega)
      · rintro (q | rfl)
        · exact ⟨by omega, q.2⟩
        · exact ⟨by omega, b2⟩
      · rintro ⟨q1, q2⟩
        by_cases q : j = i
        · exact Or.inr q
        · exact Or.inl ⟨by omega, q2⟩
    · have nle : nI 0 ≤ B i := by rw [i_le, nI_toInt (by decide)]; omega
      refine ⟨gpi (gpi a 26 i (nI (P i))) 18 2 (nI sale), ?_, (hF.pi rfl).pi rfl, fun j hj => ?_, sale, h4, by rw [gpi_at, if_pos ⟨rfl, rfl⟩], h3.cg fun j => ⟨fun q => ⟨by omega, q.2⟩, fun q => ⟨?_, q.2⟩⟩⟩
      · simp (maxSteps := 2000000) (disch := omega) only [f_Br_begin_L15, f_Br_begin_j59, gupE, gltE, gllE, litE, litLE, bindE, ↓reduceIte, gsi_at, gsi_l2, gsl_at, gsl_i1, upd_at, updL_at, Nat.reduceEqDiff, gix_nI, nI_clamp, bI_0, bI_gzb, Bool.true_eq_false, Bool.false_eq_true, u19, nI_leI, q1, u4, u5, nle, h2, nI_or, Nat.or_zero, nI_add]
      · rw [gpi_at, if_neg (by omega), gpi_at]
        by_cases q : j = i
        · rw [if_pos ⟨rfl, q⟩, q]
        · rw [if_neg fun z => q z.2]
          exact h1 j (by omega)
      · by_cases z : j = i
        · subst z
          omega
        · omega
  · rintro fu a ⟨hF, h1, sale, h4, h2, h3⟩
    have u19 : a.1 19 2 = nI n := (hF.1 19 2 rfl).trans e2.1.1
    have q1 : nI n ≤ nI n := Int32.le_refl _
    refine ⟨a, ?_, ⟨⟨⟨u19, (hF.1 19 3 rfl).trans e2.1.2⟩, fun j hj => ⟨(hF.1 20 j rfl).trans (e2.2 j hj).1, (hF.1 21 j rfl).trans (e2.2 j hj).2⟩⟩, h1, sale, h2, h3⟩, e3.tr (hF.sub fun c k q => ?_)⟩
    · simp (maxSteps := 2000000) (disch := omega) only [f_Br_begin_L15, gupE, gltE, gllE, litE, litLE, bindE, ↓reduceIte, gsi_at, gsi_l2, gsl_at, gsl_i1, upd_at, updL_at, Nat.reduceEqDiff, gix_nI, nI_clamp, bI_0, bI_gzb, Bool.true_eq_false, Bool.false_eq_true, u19, q1]
    · cases e : ((c == 18) && (k == 2) || c == 26) with
      | false => rfl
      | true =>
        simp only [Bool.or_eq_true, Bool.and_eq_true, beq_iff_eq] at e
        rcases e with ⟨rfl, rfl⟩ | rfl
        · exact absurd q (by decide)
        · exact absurd q (by rw [show inT [0] 26 k = true from rfl]; decide)
def mts2 (n : Nat) (K : Nat → Nat) (p : Nat) : Bool := decide (p / 10 < p % 10 ∧ p % 10 < n ∧ K (p / 10) ≠ K (p % 10))
def cst (s P : Nat → Nat) (w c : Nat) : Nat := if s c = w then 0 else P c
def cst2 (s P : Nat → Nat) (w p : Nat) : Nat := cst s P w (p / 10) + cst s P w (p % 10)
theorem Tmates {σ : gS} {n W : Nat} {s K P : Nat → Nat} {B : Nat → Int32} (h : BS σ n s K P W B) (hR : Rg n s K W) {p : Nat} (hp : p < 100) : f_Br_areMates (nI p) σ = some (bI (mts2 n K p)) := by
  have hn := hR.1
  have hd : nI p / nI 10 = nI (p / 10) := pk_div (by omega) (by decide) (by decide)
  have hm : grem (nI p) (nI 10) = nI (p % 10) := grem_nI (by omega) (by decide) (by decide)
  unfold f_Br_areMates mts2
  simp (disch := omega) only [litE, gltE, hd, hm, not_lt0, ↓reduceIte, nI_leI, h.1.1.1]
  by_cases q1 : p % 10 ≤ p / 10
  · rw [if_pos q1, decide_eq_false (by omega)]
    rfl
  · rw [if_neg q1]
    by_cases q2 : n ≤ p % 10
    · rw [if_pos q2, decide_eq_false (by omega)]
      rfl
    · have a1 := (h.1.2 (p / 10) (by omega)).2
      have a2 := (h.1.2 (p % 10) (by omega)).2
      have k1 := hR.sk (j := p / 10) (by omega)
      have k2 := hR.sk (j := p % 10) (by omega)
      have a1' : σ.1 21 (p / 10) = nI (K (p / 10)) := a1
      have a2' : σ.1 21 (p % 10) = nI (K (p % 10)) := a2
      rw [if_neg q2, if_pos (gix_nI (by omega) (by decide)), if_pos (gix_nI (by omega) (by decide))]
      simp (disch := omega) only [nI_clamp, a1', a2', nI_eq]
      by_cases q3 : K (p / 10) = K (p % 10)
      · rw [if_pos q3, decide_eq_false (fun q => q.2.2 q3)]
        rfl
      · rw [if_neg q3, decide_eq_true ⟨by omega, by omega, q3⟩]
        rfl
theorem Tcost1 {σ : gS} {n W w c : Nat} {s K P : Nat → Nat} {B : Nat → Int32} (h : BS σ n s K P W B) (hR : Rg n s K W) (hc : c < n) (hw : w < 6) : f_Br_costOfOne (nI c) (nI w) σ = some (nI (cst s P w c)) := by
  have a1 := (h.1.2 c hc).1
  have a1' : σ.1 20 c = nI (s c) := a1
  have a2 := h.2.1 c hc
  have k1 := hR.sk hc
  unfold f_Br_costOfOne cst
  rw [if_pos (gix_nI (by omega) (by decide)), if_pos (gix_nI (by omega) (by decide))]
  simp (disch := omega) only [nI_clamp, a1', a2, nI_eq, litE]
  by_cases e : s c = w
  · rw [if_pos e, if_pos e]
  · rw [if_neg e, if_neg e]
theorem Tcost2 {σ : gS} {n W w p : Nat} {s K P : Nat → Nat} {B : Nat → Int32} (h : BS σ n s K P W B) (hR : Rg n s K W) (hp : p < 100) (hm : mts2 n K p = true) (hw : w < 6) : f_Br_costOfPair (nI p) (nI w) σ = some (nI (cst2 s P w p)) := by
  have hm' := of_decide_eq_true hm
  have hd : nI p / nI 10 = nI (p / 10) := pk_div (by omega) (by decide) (by decide)
  have hm2 : grem (nI p) (nI 10) = nI (p % 10) := grem_nI (by omega) (by decide) (by decide)
  unfold f_Br_costOfPair cst2
  simp only [litE, hd, hm2, Tcost1 h hR (show p / 10 < n by omega) hw, Tcost1 h hR (show p % 10 < n by omega) hw, bindE, nI_add]
theorem cst_le {s P : Nat → Nat} {n w c : Nat} (hP : ∀ j, j < n → P j < 100) (hc : c < n) : cst s P w c < 100 := by
  unfold cst
  have := hP c hc
  split <;> omega
/-- the best pair among the first p -/
def facc (mt : Nat → Bool) (ct : Nat → Nat) : Nat → Nat × Nat
  | 0 => (1000000, 0)
  | p + 1 => if mt p = true ∧ ct p < (facc mt ct p).1 then (ct p, p) else facc mt ct p
theorem facc_skip {mt : Nat → Bool} {ct : Nat → Nat} {lo : Nat} : ∀ d, (∀ p, lo ≤ p → p < lo + d → mt p = false) → facc mt ct (lo + d) = facc mt ct lo
  | 0, _ => rfl
  | d + 1, h => by
    show (if mt (lo + d) = true ∧ ct (lo + d) < (facc mt ct (lo + d)).1 then _ else facc mt ct (lo + d)) = _
    rw [if_neg, facc_skip d fun p h1 h2 => h p h1 (by omega)]
    rintro ⟨q, -⟩
    rw [h (lo + d) (by omega) (by omega)] at q
    cases q
theorem facc_le {mt : Nat → Bool} {ct : Nat → Nat} (hc : ∀ p, p < 100 → mt p = true → ct p < 1000) : ∀ p, p ≤ 100 → (facc mt ct p).1 ≤ 1000000 ∧ (facc mt ct p).2 < 100 ∧ ((facc mt ct p).1 < 1000000 ∨ facc mt ct p = (1000000, 0))
  | 0, _ => ⟨Nat.le_refl _, Nat.lt_of_lt_of_le (show 0 < 100 by decide) (Nat.le_refl _), Or.inr rfl⟩
  | p + 1, h => by
    obtain ⟨h1, h2, h3⟩ := facc_le hc p (by omega)
    show (if mt p = true ∧ ct p < (facc mt ct p).1 then (ct p, p) else facc mt ct p).1 ≤ _ ∧ (if mt p = true ∧ ct p < (facc mt ct p).1 then (ct p, p) else facc mt ct p).2 < 100 ∧ ((if mt p = true ∧ ct p < (facc mt ct p).1 then (ct p, p) else facc mt ct p).1 < 1000000 ∨ (if mt p = true ∧ ct p < (facc mt ct p).1 then (ct p, p) else facc mt ct p) = (1000000, 0))
    by_cases q : mt p = true ∧ ct p < (facc mt ct p).1
    · rw [if_pos q]
      have := hc p (by omega) q.1
      exact ⟨by show ct p ≤ _; omega, by show p < 100; omega, Or.inl (by show ct p < _; omega)⟩
    · rw [if_neg q]
      exact ⟨h1, h2, h3⟩
theorem Tfind {σ : gS} {n W w : Nat} {s K P : Nat → Nat} {B : Nat → Int32} (h : BS σ n s K P W B) (hR : Rg n s K W) (hP : ∀ j, j < n → P j < 100) (hw : w < 6) :
    ∃ τ, f_Br_findPair (nI w) σ = some (bI (decide ((facc (mts2 n K) (cst2 s P w) 100).1 < 1000000)), τ) ∧ τ.1 18 5 = nI (facc (mts2 n K) (cst2 s P w) 100).1 ∧ ((facc (mts2 n K) (cst2 s P w) 100).1 < 1000000 → τ.1 18 6 = nI (facc (mts2 n K) (cst2 s P w) 100).2) ∧ Fr (fun c k => (c == 18) && (k == 5 || k == 6)) σ τ := by
  have hct : ∀ p, p < 100 → mts2 n K p = true → cst2 s P w p < 1000 := by
    intro p hp hm
    have hm' := of_decide_eq_true hm
    have a := cst_le (s := s) (w := w) hP (show p / 10 < n by omega)
    have b := cst_le (s := s) (w := w) hP (show p % 10 < n by omega)
    unfold cst2
    omega
  have keep : ∀ τ, Fr (fun c k => (c == 18) && (k == 5 || k == 6)) σ τ → BS τ n s K P W B := by
    intro τ hF
    obtain ⟨⟨⟨c1, c2⟩, c3⟩, c4, sale, c5, c6⟩ := h
    exact ⟨⟨⟨(hF.1 19 2 rfl).trans c1, (hF.1 19 3 rfl).trans c2⟩, fun j hj => ⟨(hF.1 20 j rfl).trans (c3 j hj).1, (hF.1 21 j rfl).trans (c3 j hj).2⟩⟩, fun j hj => (hF.1 26 j rfl).trans (c4 j hj), sale, (hF.1 18 2 rfl).trans c5, c6⟩
  have hs0 : f_Br_findPair (nI w) σ = f_Br_findPair_L8 gfu (nI w) (nI 0) (gpi σ 18 5 (nI 1000000)) := by
    unfold f_Br_findPair
    rw [gupE]
    rfl
  rw [hs0]
  refine loopG (fun fu i a => f_Br_findPair_L8 fu (nI w) (nI i) a) (fun o => ∃ τ, o = some (bI (decide ((facc (mts2 n K) (cst2 s P w) 100).1 < 1000000)), τ) ∧ τ.1 18 5 = nI (facc (mts2 n K) (cst2 s P w) 100).1 ∧ ((facc (mts2 n K) (cst2 s P w) 100).1 < 1000000 → τ.1 18 6 = nI (facc (mts2 n K) (cst2 s P w) 100).2) ∧ Fr (fun c k => (c == 18) && (k == 5 || k == 6)) σ τ)
    (fun i a => a.1 18 5 = nI (facc (mts2 n K) (cst2 s P w) i).1 ∧ ((facc (mts2 n K) (cst2 s P w) i).1 < 1000000 → a.1 18 6 = nI (facc (mts2 n K) (cst2 s P w) i).2) ∧ Fr (fun c k => (c == 18) && (k == 5 || k == 6)) σ a) 100 0 _ (by omega) (by omega) ⟨by rw [gpi_at, if_pos ⟨rfl, rfl⟩]; rfl, fun q => absurd q (by show ¬ 1000000 < 1000000; omega), (Fr.rf _ σ).pi rfl⟩ ?_ ?_
  · rintro fu i a hi ⟨h1, h2, hF⟩
    left
    have hb := keep a hF
    have hm := Tmates hb hR hi
    obtain ⟨l1, l2, l3⟩ := facc_le hct i (by omega)
    have q1 : ¬ 100 ≤ i := by omega
    have hstep : facc (mts2 n K) (cst2 s P w) (i + 1) = if mts2 n K i = true ∧ cst2 s P w i < (facc (mts2 n K) (cst2 s P w) i).1 then (cst2 s P w i, i) else facc (mts2 n K) (cst2 s P w) i := rfl
    cases e : mts2 n K i with
    | false =>
      rw [e] at hm
      refine ⟨a, ?_, ?_⟩
      · simp (maxSteps := 2000000) (disch := omega) only [f_Br_findPair_L8, gupE, gltE, gllE, litE, litLE, bindE, ↓reduceIte, gsi_at, gsi_l2, gsl_at, gsl_i1, upd_at, updL_at, Nat.reduceEqDiff, gix_nI, nI_clamp, bI_0, bI_gzb, Bool.true_eq_false, Bool.false_eq_true, nI_leI, q1, hm, nI_add]
      · rw [hstep, if_neg (by rw [e]; intro q; cases q.1)]
        exact ⟨h1, h2, hF⟩
    | true =>
      have hc := Tcost2 hb hR hi e hw
      have hc1 := hct i hi e
      rw [e] at hm
      by_cases q : cst2 s P w i < (facc (mts2 n K) (cst2 s P w) i).1
      · have q2 : ¬ (facc (mts2 n K) (cst2 s P w) i).1 ≤ cst2 s P w i := by omega
        refine ⟨gpi (gpi a 18 5 (nI (cst2 s P w i))) 18 6 (nI i), ?_, ?_⟩
        · simp (maxSteps := 2000000) (disch := omega) only [f_Br_findPair_L8, gupE, gltE, gllE, litE, litLE, bindE, ↓reduceIte, gsi_at, gsi_l2, gsl_at, gsl_i1, upd_at, updL_at, Nat.reduceEqDiff, gix_nI, nI_clamp, bI_0, bI_gzb, Bool.true_eq_false, Bool.false_eq_true, nI_leI, q1, hm, hc, h1, q2, nI_add]
        · rw [hstep, if_pos ⟨e, q⟩]
          refine ⟨?_, fun _ => ?_, (hF.pi rfl).pi rfl⟩
          · rw [gpi_at, if_neg (by omega), gpi_at, if_pos ⟨rfl, rfl⟩]
          · rw [gpi_at, if_pos ⟨rfl, rfl⟩]
      · have q2 : (facc (mts2 n K) (cst2 s P w) i).1 ≤ cst2 s P w i := by omega
        refine ⟨a, ?_, ?_⟩
        · simp (maxSteps := 2000000) (disch := omega) only [f_Br_findPair_L8, gupE, gltE, gllE, litE, litLE, bindE, ↓reduceIte, gsi_at, gsi_l2, gsl_at, gsl_i1, upd_at, updL_at, Nat.reduceEqDiff, gix_nI, nI_clamp, bI_0, bI_gzb, Bool.true_eq_false, Bool.false_eq_true, nI_leI, q1, hm, hc, h1, q2, nI_add]
        · rw [hstep, if_neg (fun z => q z.2)]
          exact ⟨h1, h2, hF⟩
  · rintro fu a ⟨h1, h2, hF⟩
    obtain ⟨l1, l2, l3⟩ := facc_le hct 100 (by omega)
    have q1 : nI 100 ≤ nI 100 := Int32.le_refl _
    refine ⟨a, ?_, h1, h2, hF⟩
    by_cases q : (facc (mts2 n K) (cst2 s P w) 100).1 < 1000000
    · have q2 : ¬ 1000000 ≤ (facc (mts2 n K) (cst2 s P w) 100).1 := by omega
      rw [decide_eq_true q]
      simp (maxSteps := 2000000) (disch := omega) only [f_Br_findPair_L8, gupE, gltE, gllE, litE, litLE, bindE, ↓reduceIte, gsi_at, gsi_l2, gsl_at, gsl_i1, upd_at, updL_at, Nat.reduceEqDiff, gix_nI, nI_clamp, bI_0, bI_gzb, Bool.true_eq_false, Bool.false_eq_true, q1, h1, nI_leI, q2]
      rfl
    · have q2 : 1000000 ≤ (facc (mts2 n K) (cst2 s P w) 100).1 := by omega
      rw [decide_eq_false q]
      simp (maxSteps := 2000000) (disch := omega) only [f_Br_findPair_L8, gupE, gltE, gllE, litE, litLE, bindE, ↓reduceIte, gsi_at, gsi_l2, gsl_at, gsl_i1, upd_at, updL_at, Nat.reduceEqDiff, gix_nI, nI_clamp, bI_0, bI_gzb, Bool.true_eq_false, Bool.false_eq_true, q1, h1, nI_leI, q2]
      rfl
/-- what the reference holds for costs -/
def MP (σ : gS) (n : Nat) (P : Nat → Nat) : Prop := ∀ j, j < n → σ.1 60 (20 + j) = nI (P j) ∧ P j < 100
theorem Mcost {σ : gS} {n W w c : Nat} {s K P : Nat → Nat} (hM : MS σ n s K W) (hP : MP σ n P) (hR : Rg n s K W) (hc : c < n) (hw : w < 6) : f_M_costOf (nI c) (nI w) σ = some (nI (cst s P w c)) := by
  have k1 := hR.sk hc
  have a1 := (hM.2 c hc).1
  have a2 := (hP c hc).1
  unfold f_M_costOf cst
  by_cases e : s c = w
  · simp (maxSteps := 2000000) (disch := omega) only [gupE, gltE, gllE, litE, litLE, bindE, ↓reduceIte, gsi_at, gsi_l2, gsl_at, gsl_i1, upd_at, updL_at, Nat.reduceEqDiff, gix_nI, nI_clamp, bI_0, bI_gzb, Bool.true_eq_false, Bool.false_eq_true, a1, nI_eq, e]
  · simp (maxSteps := 2000000) (disch := omega) only [gupE, gltE, gllE, litE, litLE, bindE, ↓reduceIte, gsi_at, gsi_l2, gsl_at, gsl_i1, upd_at, updL_at, Nat.reduceEqDiff, gix_nI, nI_clamp, bI_0, bI_gzb, Bool.true_eq_false, Bool.false_eq_true, a1, nI_eq, e, nI_add, a2]
theorem Mpay_L {σ : gS} {n W w t : Nat} {s K P : Nat → Nat} (hM : MS σ n s K W) (hP : MP σ n P) (hR : Rg n s K W) (hw : w < 6) (ht : t < 2) :
    f_M_pay_L34 gfu (nI w) (nI t) (nI 1000000) (-nI 2) (nI 0) σ = some (if (facc (mts2 n K) (cst2 s P w) 100).1 < 1000000 then (if t = 0 then nI (facc (mts2 n K) (cst2 s P w) 100).1 else nI (facc (mts2 n K) (cst2 s P w) 100).2) else -nI 2, σ) := by
  have hn := hR.1
  have e6 := hM.1.1
  have hPP : ∀ j, j < n → P j < 100 := fun j hj => (hP j hj).2
  have hct : ∀ p, p < 100 → mts2 n K p = true → cst2 s P w p < 1000 := by
    intro p hp hm
    have hm' := of_decide_eq_true hm
    have a := cst_le (s := s) (w := w) hPP (show p / 10 < n by omega)
    have b := cst_le (s := s) (w := w) hPP (show p % 10 < n by omega)
    unfold cst2
    omega
  let wo : Nat → Int32 := fun p => if (facc (mts2 n K) (cst2 s P w) p).1 < 1000000 then nI (facc (mts2 n K) (cst2 s P w) p).2 else -nI 2
  have hwo : ∀ p, wo p = if (facc (mts2 n K) (cst2 s P w) p).1 < 1000000 then nI (facc (mts2 n K) (cst2 s P w) p).2 else -nI 2 := fun _ => rfl
  have noM : ∀ p, p < 100 → (p % 10 ≤ p / 10 ∨ n ≤ p % 10) → mts2 n K p = false := fun p hp q => decide_eq_false fun z => by omega
  refine loopG (fun fu i (_ : Nat) => f_M_pay_L34 fu (nI w) (nI t) (nI (facc (mts2 n K) (cst2 s P w) (10 * i)).1) (wo (10 * i)) (nI i) σ) (fun o => o = some (if (facc (mts2 n K) (cst2 s P w) 100).1 < 1000000 then (if t = 0 then nI (facc (mts2 n K) (cst2 s P w) 100).1 else nI (facc (mts2 n K) (cst2 s P w) 100).2) else -nI 2, σ)) (fun _ _ => True) n 0 0 (by omega) (by omega) trivial ?_ ?_
  · intro fu i _ hi _
    left
    refine ⟨0, ?_, trivial⟩
    have q0 : ¬ n ≤ i := by omega
    have st : facc (mts2 n K) (cst2 s P w) (10 * i + (i + 1)) = facc (mts2 n K) (cst2 s P w) (10 * i) := facc_skip (i + 1) fun p h1 h2 => noM p (by omega) (by omega)
    have en : facc (mts2 n K) (cst2 s P w) (10 * (i + 1)) = facc (mts2 n K) (cst2 s P w) (10 * i + n) := by
      rw [show 10 * (i + 1) = 10 * i + n + (10 - n) by omega]
      exact facc_skip (10 - n) fun p h1 h2 => noM p (by omega) (by omega)
    have inner := loopG (fun g j (_ : Nat) => f_M_pay_L49 (fun v1 v2 v3 v4 v5 σ => f_M_pay_L34 fu v1 v2 v3 v4 v5 σ) g (nI w) (nI t) (nI (facc (mts2 n K) (cst2 s P w) (10 * i + j)).1) (wo (10 * i + j)) (nI i) (nI j) σ) (fun o => o = f_M_pay_L34 fu (nI w) (nI t) (nI (facc (mts2 n K) (cst2 s P w) (10 * (i + 1))).1) (wo (10 * (i + 1))) (nI (i + 1)) σ) (fun j _ => i + 1 ≤ j) n (i + 1) 0 (by omega) (by omega) (Nat.le_refl _) ?_ ?_
    · have wst : wo (10 * i + (i + 1)) = wo (10 * i) := by rw [hwo, hwo, st]
      rw [← inner, st, wst]
      simp (maxSteps := 2000000) (disch := omega) only [f_M_pay_L34, gupE, gltE, gllE, litE, litLE, bindE, ↓reduceIte, gsi_at, gsi_l2, gsl_at, gsl_i1, upd_at, updL_at, Nat.reduceEqDiff, gix_nI, nI_clamp, bI_0, bI_gzb, Bool.true_eq_false, Bool.false_eq_true, e6, nI_leI, q0, nI_add]
    · intro g j _ hj hij
      left
      refine ⟨0, ?_, by omega⟩
      have q1 : ¬ n ≤ j := by omega
      have k1 := hR.sk hi
      have k2 := hR.sk hj
      have a1 := (hM.2 i hi).2
      have a2 := (hM.2 j hj).2
      have c1 := Mcost hM hP hR hi hw
      have c2 := Mcost hM hP hR hj hw
      obtain ⟨p, hp⟩ : ∃ p, p = 10 * i + j := ⟨_, rfl⟩
      have pd : p / 10 = i := by omega
      have pm : p % 10 = j := by omega
      obtain ⟨l1, l2, l3⟩ := facc_le hct p (by omega)
      have hcp : cst s P w i + cst s P w j = cst2 s P w p := by
        unfold cst2
        rw [pd, pm]
      have clt := cst_le (s := s) (w := w) hPP hi
      have clt2 := cst_le (s := s) (w := w) hPP hj
      have hmt : mts2 n K p = decide (K i ≠ K j) := by
        unfold mts2
        rw [pd, pm]
        by_cases q : K i = K j
        · rw [decide_eq_false (fun z => z.2.2 q), decide_eq_false (fun z => z q)]
        · rw [decide_eq_true ⟨by omega, by omega, q⟩, decide_eq_true q]
      have hstep : facc (mts2 n K) (cst2 s P w) (p + 1) = if mts2 n K p = true ∧ cst2 s P w p < (facc (mts2 n K) (cst2 s P w) p).1 then (cst2 s P w p, p) else facc (mts2 n K) (cst2 s P w) p := rfl
      have ten : nI 10 * nI i = nI (10 * i) := pk_mul 10 i
      show f_M_pay_L49 (fun v1 v2 v3 v4 v5 σ => f_M_pay_L34 fu v1 v2 v3 v4 v5 σ) (g + 1) (nI w) (nI t) (nI (facc (mts2 n K) (cst2 s P w) (10 * i + j)).1) (wo (10 * i + j)) (nI i) (nI j) σ = f_M_pay_L49 (fun v1 v2 v3 v4 v5 σ => f_M_pay_L34 fu v1 v2 v3 v4 v5 σ) g (nI w) (nI t) (nI (facc (mts2 n K) (cst2 s P w) (10 * i + (j + 1))).1) (wo (10 * i + (j + 1))) (nI i) (nI (j + 1)) σ
      rw [show 10 * i + (j + 1) = p + 1 by omega, ← hp]
      by_cases q : K i = K j
      · have e : mts2 n K p = false := by rw [hmt]; exact decide_eq_false fun z => z q
        have hs0 : facc (mts2 n K) (cst2 s P w) (p + 1) = facc (mts2 n K) (cst2 s P w) p := by
          rw [hstep, if_neg]
          rintro ⟨z, -⟩
          rw [e] at z
          cases z
        have e2 : wo (p + 1) = wo p := by rw [hwo, hwo, hs0]
        rw [e2, hs0]
        simp (maxSteps := 2000000) (disch := omega) only [f_M_pay_L49, gupE, gltE, gllE, litE, litLE, bindE, ↓reduceIte, gsi_at, gsi_l2, gsl_at, gsl_i1, upd_at, updL_at, Nat.reduceEqDiff, gix_nI, nI_clamp, bI_0, bI_gzb, Bool.true_eq_false, Bool.false_eq_true, e6, nI_leI, q1, a1, a2, q, nI_add]
      · have e : mts2 n K p = true := by rw [hmt]; exact decide_eq_true q
        by_cases ql : cst2 s P w p < (facc (mts2 n K) (cst2 s P w) p).1
        · have q2 : ¬ (facc (mts2 n K) (cst2 s P w) p).1 ≤ cst2 s P w p := by omega
          have hs0 : facc (mts2 n K) (cst2 s P w) (p + 1) = (cst2 s P w p, p) := hstep.trans (if_pos ⟨e, ql⟩)
          have e2 : wo (p + 1) = nI p := by
            rw [hwo, hs0]
            exact if_pos (show cst2 s P w p < 1000000 by omega)
          rw [e2, hs0]
          simp (maxSteps := 2000000) (disch := omega) only [f_M_pay_L49, gupE, gltE, gllE, litE, litLE, bindE, ↓reduceIte, gsi_at, gsi_l2, gsl_at, gsl_i1, upd_at, updL_at, Nat.reduceEqDiff, gix_nI, nI_clamp, bI_0, bI_gzb, Bool.true_eq_false, Bool.false_eq_true, e6, nI_leI, q1, a1, a2, nI_eq, q, c1, c2, nI_add, hcp, q2, ten, ← hp]
        · have q2 : (facc (mts2 n K) (cst2 s P w) p).1 ≤ cst2 s P w p := by omega
          have hs0 : facc (mts2 n K) (cst2 s P w) (p + 1) = facc (mts2 n K) (cst2 s P w) p := hstep.trans (if_neg fun z => ql z.2)
          have e2 : wo (p + 1) = wo p := by rw [hwo, hwo, hs0]
          rw [e2, hs0]
          simp (maxSteps := 2000000) (disch := omega) only [f_M_pay_L49, gupE, gltE, gllE, litE, litLE, bindE, ↓reduceIte, gsi_at, gsi_l2, gsl_at, gsl_i1, upd_at, updL_at, Nat.reduceEqDiff, gix_nI, nI_clamp, bI_0, bI_gzb, Bool.true_eq_false, Bool.false_eq_true, e6, nI_leI, q1, a1, a2, nI_eq, q, c1, c2, nI_add, hcp, q2]
    · intro g _ hij
      have q1 : nI n ≤ nI n := Int32.le_refl _
      have wen : wo (10 * (i + 1)) = wo (10 * i + n) := by rw [hwo, hwo, en]
      rw [en, wen]
      simp (maxSteps := 2000000) (disch := omega) only [f_M_pay_L49, gupE, gltE, gllE, litE, litLE, bindE, ↓reduceIte, gsi_at, gsi_l2, gsl_at, gsl_i1, upd_at, updL_at, Nat.reduceEqDiff, gix_nI, nI_clamp, bI_0, bI_gzb, Bool.true_eq_false, Bool.false_eq_true, e6, q1, nI_add]
  · intro fu _ _
    have q1 : nI n ≤ nI n := Int32.le_refl _
    have en : facc (mts2 n K) (cst2 s P w) 100 = facc (mts2 n K) (cst2 s P w) (10 * n) := by
      rw [show 100 = 10 * n + (100 - 10 * n) by omega]
      exact facc_skip (100 - 10 * n) fun p h1 h2 => noM p (by omega) (by omega)
    rw [hwo, en]
    obtain ⟨l1, l2, l3⟩ := facc_le hct (10 * n) (by omega)
    have hneg : (-nI 2 < nI 0) = True := by decide
    by_cases q : (facc (mts2 n K) (cst2 s P w) (10 * n)).1 < 1000000
    · rw [if_pos q, if_pos q]
      have ng := not_lt0 (facc (mts2 n K) (cst2 s P w) (10 * n)).2 (by omega)
      by_cases t0 : t = 0
      · have t1 : ¬ 0 = 1 := by decide
        simp (maxSteps := 2000000) (disch := omega) only [f_M_pay_L34, f_M_pay_j142, gupE, gltE, gllE, litE, litLE, bindE, ↓reduceIte, gsi_at, gsi_l2, gsl_at, gsl_i1, upd_at, updL_at, Nat.reduceEqDiff, gix_nI, nI_clamp, bI_0, bI_gzb, Bool.true_eq_false, Bool.false_eq_true, e6, q1, ng, t0, nI_eq, t1]
      · have t1 : t = 1 := by omega
        simp (maxSteps := 2000000) (disch := omega) only [f_M_pay_L34, f_M_pay_j142, gupE, gltE, gllE, litE, litLE, bindE, ↓reduceIte, gsi_at, gsi_l2, gsl_at, gsl_i1, upd_at, updL_at, Nat.reduceEqDiff, gix_nI, nI_clamp, bI_0, bI_gzb, Bool.true_eq_false, Bool.false_eq_true, e6, q1, ng, t1, nI_eq]
    · rw [if_neg q, if_neg q]
      simp (maxSteps := 2000000) (disch := omega) only [f_M_pay_L34, f_M_pay_j142, gupE, gltE, gllE, litE, litLE, bindE, ↓reduceIte, gsi_at, gsi_l2, gsl_at, gsl_i1, upd_at, updL_at, Nat.reduceEqDiff, gix_nI, nI_clamp, bI_0, bI_gzb, Bool.true_eq_false, Bool.false_eq_true, e6, q1, hneg]
theorem ag_pay (v1 v2 : Int32) : Agr (f_T_pay v1 v2) (f_M_pay v1 v2) := by
  refine agr_q fun σ n K E P B F W D m V h => ?_
  have hn := h.1.1.1
  have hr := h.rg
  have hPP : ∀ j, j < n → P j < 100 := fun j hj => (h.1.2.1 j hj).1.2.2.1
  unfold f_T_pay f_M_pay
  cases hv : inb v1 6 with
  | false =>
    refine ⟨-nI 1, ⟨σ, ?_, Fr.rf _ _⟩, fun τ hF hC => ⟨τ, ?_, Fr.rf _ _⟩⟩
    · rw [show f_T_within v1 6 = some (bI false) from w3_f hv (by decide), bindE, if_pos (by decide)]
      rfl
    · rw [isWeather_eq, hv, bindE, if_pos (by decide)]
      rfl
  | true =>
    obtain ⟨w, hw, rfl⟩ := inb_of hv (by omega)
    have hw1 : f_T_within (nI w) 6 = some (bI true) := w3_t hv (by decide)
    cases hv2 : inb v2 2 with
    | false =>
      refine ⟨-nI 1, ⟨σ, ?_, Fr.rf _ _⟩, fun τ hF hC => ⟨τ, ?_, Fr.rf _ _⟩⟩
      · rw [hw1, bindE, if_neg (by decide), show f_T_within v2 2 = some (bI false) from w3_f hv2 (by decide), bindE, if_pos (by decide)]
        rfl
      · rw [isWeather_eq, hv, bindE, if_neg (by decide), show f_M_within v2.toInt64 0 1 = some (bI false) from m3_f hv2 (by decide), bindE, if_pos (by decide)]
        rfl
    | true =>
      obtain ⟨t, ht, rfl⟩ := inb_of hv2 (by omega)
      obtain ⟨s, a1, a2, a3⟩ := Tbegin h
      obtain ⟨τ1, b1, b2, b3, b4⟩ := Tfind a2 hr hPP hw
      have F2 : Frs s τ1 := b4.sub fun c k q => by
        cases e : ((c == 18) && (k == 5 || k == 6)) with
        | false => rfl
        | true =>
          simp only [Bool.or_eq_true, Bool.and_eq_true, beq_iff_eq] at e
          rcases e with ⟨rfl, rfl | rfl⟩ <;> exact absurd q (by decide)
      refine ⟨if (facc (mts2 n K) (cst2 (sy V K E P B F D) P w) 100).1 < 1000000 then (if t = 0 then nI (facc (mts2 n K) (cst2 (sy V K E P B F D) P w) 100).1 else nI (facc (mts2 n K) (cst2 (sy V K E P B F D) P w) 100).2) else -nI 2, ⟨τ1, ?_, a3.tr F2⟩, fun τ hF hC => ?_⟩
      · rw [hw1, bindE, if_neg (by decide), show f_T_within (nI t) 2 = some (bI true) from w3_t hv2 (by decide), bindE, if_neg (by decide), a1, bindE, b1, bindE]
        by_cases q : (facc (mts2 n K) (cst2 (sy V K E P B F D) P w) 100).1 < 1000000
        · rw [decide_eq_true q, if_neg (show ¬ bI true = 0 by decide), if_pos q]
          by_cases t0 : t = 0
          · rw [if_pos t0, t0, if_pos (show nI 0 = 0 from rfl)]
            simp only [b2]
          · have t0' : ¬ nI t = 0 := by
              intro z
              exact t0 ((nI_eq (a := t) (b := 0) (by omega) (by omega)).mp z)
            rw [if_neg t0, if_neg t0']
            simp only [b3 q]
        · rw [decide_eq_false q, if_pos (show bI false = 0 by decide), if_neg q]
          rfl
      · obtain ⟨υ, c1, c2, c3⟩ := Snow hC
        have hMP : MP υ n P := fun j hj => ⟨(c3.1 60 (20 + j) rfl).trans (hC.1.2.1 j hj).2.2.2.2.1, hPP j hj⟩
        have hL := Mpay_L c2 hMP hr hw ht
        refine ⟨υ, ?_, c3⟩
        rw [isWeather_eq, hv, bindE, if_neg (by decide), show f_M_within (nI t).toInt64 0 1 = some (bI true) from m3_t hv2 (by decide), bindE, if_neg (by decide), c1, bindE, ← hL]
        rfl
