/-! pure: which part of R a cell belongs to; citizens -/
def comp (c k : Nat) : Nat := if cPeo c k then 1 else if cTap c k then 2 else if cLw c k then 3 else if cChg c k then 4 else if cLed c k then 5 else if cPic c k then 6 else if cWrd c k then 7 else if cShv c k then 8 else if (c == 68) && (k == 0) then 9 else 0
def inT (T : List Nat) (c k : Nat) : Bool := T.contains (comp c k)
theorem comp_1 {c k : Nat} (h : cPeo c k = true) : comp c k = 1 := by simp only [comp, h, if_true]
theorem comp_2 {c k : Nat} (h : cTap c k = true) : comp c k = 2 := by
  have h1 : cPeo c k = false := by
    cases e : cPeo c k with
    | false => rfl
    | true =>
      simp only [cPeo, cTap, Bool.or_eq_true, Bool.and_eq_true, beq_iff_eq] at h e
      omega
  simp only [comp, h, h1, if_true, Bool.false_eq_true, if_false]
theorem comp_3 {c k : Nat} (h : cLw c k = true) : comp c k = 3 := by
  have h1 : (cPeo c k || cTap c k) = false := by
    cases e : (cPeo c k || cTap c k) with
    | false => rfl
    | true =>
      simp only [cPeo, cTap, cLw, Bool.or_eq_true, Bool.and_eq_true, beq_iff_eq] at h e
      omega
  simp only [Bool.or_eq_false_iff] at h1
  simp only [comp, h, h1, if_true, Bool.false_eq_true, if_false]
theorem comp_4 {c k : Nat} (h : cChg c k = true) : comp c k = 4 := by
  have h1 : (cPeo c k || cTap c k || cLw c k) = false := by
    cases e : (cPeo c k || cTap c k || cLw c k) with
    | false => rfl
    | true =>
      simp only [cPeo, cTap, cLw, cChg, Bool.or_eq_true, Bool.and_eq_true, beq_iff_eq] at h e
      omega
  simp only [Bool.or_eq_false_iff] at h1
  simp only [comp, h, h1, if_true, Bool.false_eq_true, if_false]
theorem comp_5 {c k : Nat} (h : cLed c k = true) : comp c k = 5 := by
  have h1 : (cPeo c k || cTap c k || cLw c k || cChg c k) = false := by
    cases e : (cPeo c k || cTap c k || cLw c k || cChg c k) with
    | false => rfl
    | true =>
      simp only [cPeo, cTap, cLw, cChg, cLed, Bool.or_eq_true, Bool.and_eq_true, beq_iff_eq] at h e
      omega
  simp only [Bool.or_eq_false_iff] at h1
  simp only [comp, h, h1, if_true, Bool.false_eq_true, if_false]
theorem comp_6 {c k : Nat} (h : cPic c k = true) : comp c k = 6 := by
  have h1 : (cPeo c k || cTap c k || cLw c k || cChg c k || cLed c k) = false := by
    cases e : (cPeo c k || cTap c k || cLw c k || cChg c k || cLed c k) with
    | false => rfl
    | true =>
      simp only [cPeo, cTap, cLw, cChg, cLed, cPic, Bool.or_eq_true, Bool.and_eq_true, beq_iff_eq] at h e
      omega
  simp only [Bool.or_eq_false_iff] at h1
  simp only [comp, h, h1, if_true, Bool.false_eq_true, if_false]
theorem comp_7 {c k : Nat} (h : cWrd c k = true) : comp c k = 7 := by
  have h1 : (cPeo c k || cTap c k || cLw c k || cChg c k || cLed c k || cPic c k) = false := by
    cases e : (cPeo c k || cTap c k || cLw c k || cChg c k || cLed c k || cPic c k) with
    | false => rfl
    | true =>
      simp only [cPeo, cTap, cLw, cChg, cLed, cPic, cWrd, Bool.or_eq_true, Bool.and_eq_true, beq_iff_eq] at h e
      omega
  simp only [Bool.or_eq_false_iff] at h1
  simp only [comp, h, h1, if_true, Bool.false_eq_true, if_false]
theorem comp_8 {c k : Nat} (h : cShv c k = true) : comp c k = 8 := by
  have h1 : (cPeo c k || cTap c k || cLw c k || cChg c k || cLed c k || cPic c k || cWrd c k) = false := by
    cases e : (cPeo c k || cTap c k || cLw c k || cChg c k || cLed c k || cPic c k || cWrd c k) with
    | false => rfl
    | true =>
      simp only [cPeo, cTap, cLw, cChg, cLed, cPic, cWrd, cShv, Bool.or_eq_true, Bool.and_eq_true, beq_iff_eq, decide_eq_true_eq] at h e
      omega
  simp only [Bool.or_eq_false_iff] at h1
  simp only [comp, h, h1, if_true, Bool.false_eq_true, if_false]
theorem comp_9 : comp 68 0 = 9 := by decide
theorem inT_no {T : List Nat} {c k i : Nat} (hn : T.contains i = false) (h : comp c k = i) : inT T c k = false := by
  unfold inT
  rw [h]
  exact hn
theorem kPeo {T : List Nat} {σ τ : gS} (hF : Fr (inT T) σ τ) (hn : T.contains 1 = false) {n : Nat} {K E P : Nat → Nat} {B : Nat → Int32} {F W D : Nat} (h : Peo σ n K E P B F W D) : Peo τ n K E P B F W D := h.ag fun c k q => hF.1 c k (inT_no hn (comp_1 q))
theorem kTap {T : List Nat} {σ τ : gS} (hF : Fr (inT T) σ τ) (hn : T.contains 2 = false) (h : Tap σ) : Tap τ := h.ag fun c k q => hF.1 c k (inT_no hn (comp_2 q))
theorem kLw {T : List Nat} {σ τ : gS} (hF : Fr (inT T) σ τ) (hn : T.contains 3 = false) (h : Lw σ) : Lw τ := h.ag fun c k q => hF.1 c k (inT_no hn (comp_3 q))
theorem kChg {T : List Nat} {σ τ : gS} (hF : Fr (inT T) σ τ) (hn : T.contains 4 = false) {n : Nat} (h : Chg σ n) : Chg τ n := h.ag fun c k q => hF.1 c k (inT_no hn (comp_4 q))
theorem kLed {T : List Nat} {σ τ : gS} (hF : Fr (inT T) σ τ) (hn : T.contains 5 = false) {n : Nat} (h : Led σ n) : Led τ n := h.ag fun c k q => hF.1 c k (inT_no hn (comp_5 q))
theorem kPic {T : List Nat} {σ τ : gS} (hF : Fr (inT T) σ τ) (hn : T.contains 6 = false) {n : Nat} (h : Pic σ n) : Pic τ n := h.ag fun c k q => hF.1 c k (inT_no hn (comp_6 q))
theorem kWrd {T : List Nat} {σ τ : gS} (hF : Fr (inT T) σ τ) (hn : T.contains 7 = false) {n : Nat} (h : Wrd σ n) : Wrd τ n := h.ag fun c k q => hF.1 c k (inT_no hn (comp_7 q))
theorem kShv {T : List Nat} {σ τ : gS} (hF : Fr (inT T) σ τ) (hn : T.contains 8 = false) {n : Nat} (h : Shv σ n) : Shv τ n := h.ag (fun c k q => hF.1 c k (inT_no hn (comp_8 q))) (fun c k q => hF.2 c k (inT_no hn (comp_8 q)))
theorem k0 {T : List Nat} {σ τ : gS} (hF : Fr (inT T) σ τ) (hn : T.contains 9 = false) (h : σ.1 68 0 = nI 0) : τ.1 68 0 = nI 0 := (hF.1 68 0 (inT_no hn comp_9)).trans h
abbrev Frs (σ τ : gS) : Prop := Fr (inT [0]) σ τ
theorem R.frs {σ τ : gS} (hR : R σ) (g : Frs σ τ) : R τ := by
  obtain ⟨n, K, E, P, B, F, W, D, m, hP, hT, hL, hC, hLe, hPi, hW, hS, h0⟩ := hR
  exact ⟨n, K, E, P, B, F, W, D, m, kPeo g rfl hP, kTap g rfl hT, kLw g rfl hL, kChg g rfl hC, kLed g rfl hLe, kPic g rfl hPi, kWrd g rfl hW, kShv g rfl hS, k0 g rfl h0⟩
/-- more citizens -/
theorem Chg.mono {σ : gS} {n n' : Nat} (h : Chg σ n) (hn : n ≤ n') : Chg σ n' := by
  obtain ⟨d, k, h1, h2, h3⟩ := h
  refine ⟨d, k, h1, h2, fun i hi => ?_⟩
  obtain ⟨u, w, ⟨a1, a2, a3⟩, a4⟩ := h3 i hi
  exact ⟨u, w, ⟨a1, fun q => Nat.lt_of_lt_of_le (a2 q) hn, a3⟩, a4⟩
theorem Led.mono {σ : gS} {n n' : Nat} (h : Led σ n) (hn : n ≤ n') : Led σ n' := by
  obtain ⟨h1, ⟨t, h2, h3⟩, h4⟩ := h
  exact ⟨h1, ⟨t, Nat.lt_of_lt_of_le h2 (Nat.pow_le_pow_right (by decide) hn), h3⟩, h4⟩
theorem Pic.mono {σ : gS} {n n' : Nat} (h : Pic σ n) (hn : n ≤ n') : Pic σ n' := by
  rcases h with h | ⟨h1, m, D, ⟨h2, h3⟩, h4⟩
  · exact Or.inl h
  · exact Or.inr ⟨h1, m, D, ⟨Nat.le_trans h2 hn, h3⟩, h4⟩
theorem mayCome_i (v : Int32) : f_M_mayCome v.toInt64 (lN 0) (lN 0) = some (bI (inb v 8)) := by
  unfold f_M_mayCome
  simp only [lit_nI, lit_lN, Mwithin0 v (b := 7) (by decide), Option.bind_some, bI_0, Mwithin, lN_tI (show 0 < 9223372036854775808 by decide), lN_tI (show 12 < 9223372036854775808 by decide), lN_tI (show 99 < 9223372036854775808 by decide)]
  cases inb v 8 <;> simp [bI_t, bI_f]
theorem welcome_eq {σ : gS} {n : Nat} (h : σ.1 1 6 = nI n) (a b c : Int32) (hn : n < 10) : f_Isl_welcome a b c σ = some (nI n, gpi (gpi (gpi (gpi (gpi σ 2 n a) 3 n b) 4 n c) 5 n (-1)) 1 6 (nI (n + 1))) := by
  unfold f_Isl_welcome
  simp (disch := omega) only [gupE, gltE, gllE, litE, litLE, bindE, ↓reduceIte, gsi_at, gsi_l2, gsl_at, gsl_i1, upd_at, updL_at, Nat.reduceEqDiff, gix_nI, nI_clamp, bI_0, bI_gzb, Bool.true_eq_false, Bool.false_eq_true, h, nI_ltI, hn, nI_add, pk_sub, Nat.add_sub_cancel]
theorem welcome_full {σ : gS} (h : σ.1 1 6 = nI 10) (a b c : Int32) : f_Isl_welcome a b c σ = some (-nI 3, σ) := by
  unfold f_Isl_welcome
  simp (disch := omega) only [gupE, gltE, gllE, litE, litLE, bindE, ↓reduceIte, gsi_at, gsi_l2, gsl_at, gsl_i1, upd_at, updL_at, Nat.reduceEqDiff, gix_nI, nI_clamp, bI_0, bI_gzb, Bool.true_eq_false, Bool.false_eq_true, h, nI_ltI, Nat.lt_irrefl]
theorem adds_eq {σ : gS} {n : Nat} (h : σ.1 59 6 = nI n) (a b c : Int32) (hn : n < 10) : f_M_adds a b c σ = some (gpi (gpi (gpi (gpi (gpi σ 60 n a) 60 (10 + n) b) 60 (20 + n) c) 60 (30 + n) (-1)) 59 6 (nI (n + 1))) := by
  unfold f_M_adds
  simp (disch := omega) only [gupE, gltE, gllE, litE, litLE, bindE, ↓reduceIte, gsi_at, gsi_l2, gsl_at, gsl_i1, upd_at, updL_at, Nat.reduceEqDiff, gix_nI, nI_clamp, bI_0, bI_gzb, Bool.true_eq_false, Bool.false_eq_true, h, nI_add, pk_sub, Nat.add_sub_cancel]
/-- one more on both sides -/
theorem R.add {σ : gS} {n a b c m : Nat} {K E P : Nat → Nat} {B : Nat → Int32} {F W D : Nat} (hP : Peo σ n K E P B F W D) (hn : n < 10) (ha : a < 8) (hb : b < 13) (hc : c < 100) :
    Peo (gpi (gpi (gpi (gpi (gpi (gpi (gpi (gpi (gpi (gpi σ 2 n (nI a)) 3 n (nI b)) 4 n (nI c)) 5 n (-1)) 1 6 (nI (n + 1))) 60 n (nI a)) 60 (10 + n) (nI b)) 60 (20 + n) (nI c)) 60 (30 + n) (-1)) 59 6 (nI (n + 1))) (n + 1) (fun i => if i = n then a else K i) (fun i => if i = n then b else E i) (fun i => if i = n then c else P i) (fun i => if i = n then -1 else B i) F W D := by
  obtain ⟨⟨h1, h2, h3⟩, h4, h5, h6, h7⟩ := hP
  refine ⟨⟨by omega, ?_, ?_⟩, fun i hi => ?_, ?_, ?_, ?_⟩
  · simp only [gsi_at, upd_at, Nat.reduceEqDiff, ↓reduceIte]
  · simp only [gsi_at, upd_at, Nat.reduceEqDiff, ↓reduceIte]
  · by_cases hin : i = n
    · subst hin
      have e1 : ¬ 10 + i = i := by omega
      have e2 : ¬ 20 + i = i := by omega
      have e3 : ¬ 30 + i = i := by omega
      have e4 : ¬ i = 10 + i := by omega
      have e5 : ¬ i = 20 + i := by omega
      have e6 : ¬ i = 30 + i := by omega
      have e7 : ¬ 10 + i = 20 + i := by omega
      have e8 : ¬ 10 + i = 30 + i := by omega
      have e9 : ¬ 20 + i = 30 + i := by omega
      simp only [gsi_at, upd_at, Nat.reduceEqDiff, ↓reduceIte, e1, e2, e3, e4, e5, e6, e7, e8, e9]
      exact ⟨⟨ha, hb, hc, Or.inl rfl⟩, ⟨trivial, trivial, trivial, trivial⟩, trivial, trivial, trivial, trivial⟩
    · have hi' : i < n := by omega
      have h := h4 i hi'
      have e1 : ¬ i = 10 + n := by omega
      have e2 : ¬ i = 20 + n := by omega
      have e3 : ¬ i = 30 + n := by omega
      have e4 : ¬ 10 + i = n := by omega
      have e5 : ¬ 10 + i = 10 + n := by omega
      have e6 : ¬ 10 + i = 20 + n := by omega
      have e7 : ¬ 10 + i = 30 + n := by omega
      have e8 : ¬ 20 + i = n := by omega
      have e9 : ¬ 20 + i = 10 + n := by omega
      have ea : ¬ 20 + i = 20 + n := by omega
      have eb : ¬ 20 + i = 30 + n := by omega
      have ec : ¬ 30 + i = n := by omega
      have ed : ¬ 30 + i = 10 + n := by omega
      have ee : ¬ 30 + i = 20 + n := by omega
      have ef : ¬ 30 + i = 30 + n := by omega
      simp only [gsi_at, upd_at, Nat.reduceEqDiff, ↓reduceIte, hin, e1, e2, e3, e4, e5, e6, e7, e8, e9, ea, eb, ec, ed, ee, ef]
      exact h
  · have e4 : ¬ 40 = n := by omega
    have e5 : ¬ 40 = 10 + n := by omega
    have e6 : ¬ 40 = 20 + n := by omega
    have e7 : ¬ 40 = 30 + n := by omega
    simp only [gsi_at, upd_at, Nat.reduceEqDiff, ↓reduceIte, e4, e5, e6, e7]
    exact h5
  · have e4 : ¬ 41 = n := by omega
    have e5 : ¬ 41 = 10 + n := by omega
    have e6 : ¬ 41 = 20 + n := by omega
    have e7 : ¬ 41 = 30 + n := by omega
    simp only [gsi_at, upd_at, Nat.reduceEqDiff, ↓reduceIte, e4, e5, e6, e7]
    exact h6
  · have e4 : ¬ 42 = n := by omega
    have e5 : ¬ 42 = 10 + n := by omega
    have e6 : ¬ 42 = 20 + n := by omega
    have e7 : ¬ 42 = 30 + n := by omega
    simp only [gsi_at, upd_at, Nat.reduceEqDiff, ↓reduceIte, e4, e5, e6, e7]
    exact h7
theorem ag_citizen (v : Int32) : Agr (f_T_citizen v) (f_M_citizen v) := by
  intro σ hR
  have hR0 := hR
  obtain ⟨n, K, E, P, B, F, W, D, m, hP, hT, hL, hC, hLe, hPi, hW, hS, h0⟩ := hR
  obtain ⟨⟨hn, h1, h2⟩, -⟩ := id hP
  unfold f_T_citizen f_M_citizen
  simp (disch := omega) only [gupE, gltE, gllE, litE, litLE, bindE, ↓reduceIte, gsi_at, gsi_l2, gsl_at, gsl_i1, upd_at, updL_at, Nat.reduceEqDiff, gix_nI, nI_clamp, bI_0, bI_gzb, Bool.true_eq_false, Bool.false_eq_true, within_eq, mayCome_i]
  cases hv : inb v 8 with
  | false =>
    simp only [↓reduceIte]
    exact ⟨_, σ, σ, rfl, rfl, hR0⟩
  | true =>
    obtain ⟨k, hk, rfl⟩ := inb_of hv (by decide)
    simp only [↓reduceIte, Bool.true_eq_false]
    by_cases h10 : n < 10
    · have e : ¬ nI n = nI 10 := by rw [nI_eq (by omega) (by omega)]; omega
      have hA := R.add (m := m) hP h10 hk (show 9 < 13 by decide) (show 10 < 100 by decide)
      have hF : Fr (inT [1]) σ (gpi (gpi (gpi (gpi (gpi (gpi (gpi (gpi (gpi (gpi σ 2 n (nI k)) 3 n (nI 9)) 4 n (nI 10)) 5 n (-1)) 1 6 (nI (n + 1))) 60 n (nI k)) 60 (10 + n) (nI 9)) 60 (20 + n) (nI 10)) 60 (30 + n) (-1)) 59 6 (nI (n + 1))) :=
        ((((((((((Fr.rf _ σ).pi rfl).pi rfl).pi rfl).pi rfl).pi rfl).pi rfl).pi rfl).pi rfl).pi rfl).pi rfl
      refine ⟨nI n, gpi (gpi (gpi (gpi (gpi σ 2 n (nI k)) 3 n (nI 9)) 4 n (nI 10)) 5 n (-1)) 1 6 (nI (n + 1)), _, ?_, ?_, ⟨n + 1, _, _, _, _, F, W, D, m, hA, kTap hF rfl hT, kLw hF rfl hL, (kChg hF rfl hC).mono (by omega), (kLed hF rfl hLe).mono (by omega), (kPic hF rfl hPi).mono (by omega), kWrd hF rfl hW, kShv hF rfl hS, k0 hF rfl h0⟩⟩
      · rw [welcome_eq h1 _ _ _ h10]
        rfl
      · simp (disch := omega) only [gupE, gltE, gllE, litE, litLE, bindE, ↓reduceIte, gsi_at, gsi_l2, gsl_at, gsl_i1, upd_at, updL_at, Nat.reduceEqDiff, gix_nI, nI_clamp, bI_0, bI_gzb, Bool.true_eq_false, Bool.false_eq_true, h2, e]
        rw [adds_eq (n := n) (by simp only [gsi_at, upd_at, Nat.reduceEqDiff, ↓reduceIte]; exact h2) _ _ _ h10]
        simp (disch := omega) only [gupE, gltE, gllE, litE, litLE, bindE, ↓reduceIte, gsi_at, gsi_l2, gsl_at, gsl_i1, upd_at, updL_at, Nat.reduceEqDiff, gix_nI, nI_clamp, bI_0, bI_gzb, Bool.true_eq_false, Bool.false_eq_true, pk_sub, Nat.add_sub_cancel]
    · have e : n = 10 := by omega
      subst e
      rw [welcome_full h1]
      refine ⟨_, σ, σ, rfl, ?_, hR0⟩
      simp only [gupE, gltE, gllE, litE, litLE, bindE, ↓reduceIte, gsi_at, gsi_l2, gsl_at, gsl_i1, upd_at, updL_at, Nat.reduceEqDiff, gix_nI, nI_clamp, bI_0, bI_gzb, Bool.true_eq_false, Bool.false_eq_true, h2]
