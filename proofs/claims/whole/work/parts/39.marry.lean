/-! pure: two tens; marry -/
theorem grem_nI {a d : Nat} (ha : a < 2147483648) (h0 : 0 < d) (hd : d < 2147483648) : grem (nI a) (nI d) = nI (a % d) := pk_rem (by omega) h0 (by omega)
def two (v : Int32) (s : Nat) : Bool := decide (0 ≤ v.toInt) && (decide (v.toInt / 10 < (s : Int)) && decide (v.toInt % 10 < (s : Int)))
theorem two_nI {j s : Nat} (h : j < 2147483648) : two (nI j) s = (decide (j / 10 < s) && decide (j % 10 < s)) := by
  unfold two
  rw [nI_toInt (by omega)]
  have e1 : (((j : Int) / 10 < (s : Int)) : Prop) = (j / 10 < s) := by
    apply propext
    omega
  have e2 : (((j : Int) % 10 < (s : Int)) : Prop) = (j % 10 < s) := by
    apply propext
    omega
  simp [e1, e2]
theorem two_neg {v : Int32} {s : Nat} (h : v.toInt < 0) : two v s = false := by
  unfold two
  have : ¬ 0 ≤ v.toInt := by omega
  simp [this]
theorem nonneg_nI {v : Int32} (h : 0 ≤ v.toInt) : ∃ j, j < 2147483648 ∧ v = nI j := by
  have := Int32.toInt_lt v
  refine ⟨v.toInt.toNat, by omega, Int32.toInt_inj.mp ?_⟩
  rw [nI_toInt (by omega)]
  omega
theorem lt0_iff (v : Int32) : (v < nI 0) = (v.toInt < 0) := by
  rw [i_lt, nI_toInt (by decide)]
  rfl
theorem areTwo_eq (v : Int32) {s : Nat} (hs : s < 2147483648) : f_T_areTwo v (nI s) = some (bI (two v s)) := by
  unfold f_T_areTwo
  by_cases h : v.toInt < 0
  · have h' : v < nI 0 := by rw [lt0_iff]; exact h
    simp only [gupE, gltE, gllE, litE, litLE, bindE, ↓reduceIte, gsi_at, gsi_l2, gsl_at, gsl_i1, upd_at, updL_at, Nat.reduceEqDiff, gix_nI, nI_clamp, bI_0, bI_gzb, Bool.true_eq_false, Bool.false_eq_true, h', two_neg h]
    rfl
  · obtain ⟨j, hj, rfl⟩ := nonneg_nI (v := v) (by omega)
    simp (disch := omega) only [gupE, gltE, gllE, litE, litLE, bindE, ↓reduceIte, gsi_at, gsi_l2, gsl_at, gsl_i1, upd_at, updL_at, Nat.reduceEqDiff, gix_nI, nI_clamp, bI_0, bI_gzb, Bool.true_eq_false, Bool.false_eq_true, not_lt0, pk_div, grem_nI, nI_leI, two_nI]
    by_cases h1 : s ≤ j / 10
    · have h2 : ¬ j / 10 < s := by omega
      simp [h1, h2, bI]
    · have h2 : j / 10 < s := by omega
      by_cases h3 : s ≤ j % 10
      · have h4 : ¬ j % 10 < s := by omega
        simp [h1, h2, h3, h4, bI]
      · have h4 : j % 10 < s := by omega
        simp [h1, h2, h3, h4, bI]
theorem two_of {v : Int32} {s : Nat} (hs : s ≤ 10) (h : two v s = true) : ∃ a b, a < s ∧ b < s ∧ v = nI (10 * a + b) ∧ v / nI 10 = nI a ∧ grem v (nI 10) = nI b := by
  have h0 : 0 ≤ v.toInt := by
    unfold two at h
    simp at h
    omega
  obtain ⟨j, hj, rfl⟩ := nonneg_nI h0
  rw [two_nI hj] at h
  simp only [Bool.and_eq_true, decide_eq_true_eq] at h
  refine ⟨j / 10, j % 10, h.1, h.2, ?_, ?_, ?_⟩
  · congr 1
    omega
  · rw [pk_div (by omega) (by decide) (by decide)]
  · rw [grem_nI hj (by decide) (by decide)]
/-- how many of a kin, or of one that becomes it -/
def cm (K : Nat → Nat) (l g : Nat) : Nat → Nat → Nat
  | _, 0 => 0
  | i, t + 1 => (if K i = g ∨ K i = l then 1 else 0) + cm K l g (i + 1) t
theorem cm_le (K : Nat → Nat) (l g : Nat) : ∀ t i, cm K l g i t ≤ t
  | 0, _ => Nat.le_refl _
  | t + 1, i => by
    have := cm_le K l g t (i + 1)
    simp only [cm]
    split <;> omega
theorem join5 {n l g : Nat} (hn : n ≤ 10) (hl : l < 8) (hg : g < 8) (K : Nat → Nat) (hK : ∀ c, c < n → K c < 8) : ∀ (t i fu acc : Nat) (σ : gS), i + t = n → t < fu → acc + t ≤ 100 → σ.1 1 6 = nI n → (∀ c, i ≤ c → c < n → σ.1 2 c = nI (K c)) →
    ∃ τ, f_Isl_join_L5 fu (nI l) (nI g) (nI acc) (nI i) σ = some (nI (acc + cm K l g i t), τ) ∧ (∀ j, τ.1 2 j = if i ≤ j ∧ j < n then nI (if K j = g then l else K j) else σ.1 2 j) ∧ Fr (only 2) σ τ := by
  intro t
  induction t with
  | zero =>
    intro i fu acc σ hi hf ha h6 hk
    obtain ⟨f, rfl⟩ : ∃ f, fu = f + 1 := ⟨fu - 1, by omega⟩
    obtain rfl : i = n := by omega
    refine ⟨σ, ?_, fun j => ?_, Fr.rf _ _⟩
    · unfold f_Isl_join_L5
      have : nI i ≤ nI i := Int32.le_refl _
      simp only [gupE, gltE, gllE, litE, litLE, bindE, ↓reduceIte, gsi_at, gsi_l2, gsl_at, gsl_i1, upd_at, updL_at, Nat.reduceEqDiff, gix_nI, nI_clamp, bI_0, bI_gzb, Bool.true_eq_false, Bool.false_eq_true, h6, this, cm, Nat.add_zero]
    · rw [if_neg (by omega)]
  | succ t ih =>
    intro i fu acc σ hi hf ha h6 hk
    obtain ⟨f, rfl⟩ : ∃ f, fu = f + 1 := ⟨fu - 1, by omega⟩
    have hi6 : ¬ n ≤ i := by omega
    have hKi := hK i (by omega)
    have hki := hk i (Nat.le_refl _) (by omega)
    by_cases e : K i = g
    · obtain ⟨τ, e1, e2, e3⟩ := ih (i + 1) f (acc + 1) (gpi σ 2 i (nI l)) (by omega) (by omega) (by omega) (by simp only [gsi_at, upd_at, Nat.reduceEqDiff, ↓reduceIte]; exact h6) (fun c h1 h2 => by
        have : ¬ c = i := by omega
        simp only [gsi_at, upd_at, ↓reduceIte, this]
        exact hk c (by omega) h2)
      refine ⟨τ, ?_, fun j => ?_, ((Fr.rf _ σ).pi rfl).tr e3⟩
      · unfold f_Isl_join_L5 f_Isl_join_j33 f_Isl_join_j50
        simp (disch := omega) only [gupE, gltE, gllE, litE, litLE, bindE, ↓reduceIte, gsi_at, gsi_l2, gsl_at, gsl_i1, upd_at, updL_at, Nat.reduceEqDiff, gix_nI, nI_clamp, bI_0, bI_gzb, Bool.true_eq_false, Bool.false_eq_true, h6, nI_leI, hi6, hki, e, nI_add]
        rw [e1]
        simp only [cm, e, true_or, ↓reduceIte, Nat.add_assoc]
      · rw [e2]
        by_cases q : j = i
        · subst q
          rw [if_neg (by omega), if_pos (by omega), if_pos e]
          simp only [gsi_at, upd_at, ↓reduceIte]
        · by_cases q2 : i + 1 ≤ j ∧ j < n
          · rw [if_pos q2, if_pos (show i ≤ j ∧ j < n by omega)]
          · rw [if_neg q2, if_neg (show ¬ (i ≤ j ∧ j < n) by omega)]
            simp only [gsi_at, upd_at, ↓reduceIte, q]
    · have eg : ¬ nI (K i) = nI g := by rw [nI_eq (by omega) (by omega)]; exact e
      by_cases el : K i = l
      · obtain ⟨τ, e1, e2, e3⟩ := ih (i + 1) f (acc + 1) σ (by omega) (by omega) (by omega) h6 (fun c h1 h2 => hk c (by omega) h2)
        refine ⟨τ, ?_, fun j => ?_, e3⟩
        · have egl : ¬ nI l = nI g := by rw [← el]; exact eg
          unfold f_Isl_join_L5 f_Isl_join_j33 f_Isl_join_j50
          simp (disch := omega) only [gupE, gltE, gllE, litE, litLE, bindE, ↓reduceIte, gsi_at, gsi_l2, gsl_at, gsl_i1, upd_at, updL_at, Nat.reduceEqDiff, gix_nI, nI_clamp, bI_0, bI_gzb, Bool.true_eq_false, Bool.false_eq_true, h6, nI_leI, hi6, hki, el, egl, nI_add]
          rw [e1]
          simp only [cm, el, or_true, ↓reduceIte, Nat.add_assoc]
        · rw [e2]
          by_cases q : j = i
          · subst q
            rw [if_neg (by omega), if_pos (by omega), if_neg e, hki]
          · by_cases q2 : i + 1 ≤ j ∧ j < n
            · rw [if_pos q2, if_pos (show i ≤ j ∧ j < n by omega)]
            · rw [if_neg q2, if_neg (show ¬ (i ≤ j ∧ j < n) by omega)]
      · have eln : ¬ nI (K i) = nI l := by rw [nI_eq (by omega) (by omega)]; exact el
        obtain ⟨τ, e1, e2, e3⟩ := ih (i + 1) f acc σ (by omega) (by omega) (by omega) h6 (fun c h1 h2 => hk c (by omega) h2)
        refine ⟨τ, ?_, fun j => ?_, e3⟩
        · unfold f_Isl_join_L5 f_Isl_join_j33 f_Isl_join_j50
          simp (disch := omega) only [gupE, gltE, gllE, litE, litLE, bindE, ↓reduceIte, gsi_at, gsi_l2, gsl_at, gsl_i1, upd_at, updL_at, Nat.reduceEqDiff, gix_nI, nI_clamp, bI_0, bI_gzb, Bool.true_eq_false, Bool.false_eq_true, h6, nI_leI, hi6, hki, eg, eln, nI_add, Nat.add_zero]
          rw [e1]
          simp only [cm, e, el, or_self, ↓reduceIte, Nat.zero_add]
        · rw [e2]
          by_cases q : j = i
          · subst q
            rw [if_neg (by omega), if_pos (by omega), if_neg e, hki]
          · by_cases q2 : i + 1 ≤ j ∧ j < n
            · rw [if_pos q2, if_pos (show i ≤ j ∧ j < n by omega)]
            · rw [if_neg q2, if_neg (show ¬ (i ≤ j ∧ j < n) by omega)]
theorem marry76 {n l g : Nat} (hn : n ≤ 10) (hl : l < 8) (hg : g < 8) (K : Nat → Nat) (hK : ∀ c, c < n → K c < 8) : ∀ (t i fu acc : Nat) (σ : gS), i + t = n → t < fu → acc + t ≤ 100 → σ.1 59 6 = nI n → (∀ c, i ≤ c → c < n → σ.1 60 c = nI (K c)) →
    ∃ τ, f_M_marry_L76 fu (nI l) (nI g) (nI acc) (nI i) σ = some (nI (acc + cm K l g i t), gpi τ 71 2 (τ.1 71 2 + nI 1)) ∧ (∀ j, τ.1 60 j = if i ≤ j ∧ j < n then nI (if K j = g then l else K j) else σ.1 60 j) ∧ Fr (only 60) σ τ := by
  intro t
  induction t with
  | zero =>
    intro i fu acc σ hi hf ha h6 hk
    obtain ⟨f, rfl⟩ : ∃ f, fu = f + 1 := ⟨fu - 1, by omega⟩
    obtain rfl : i = n := by omega
    refine ⟨σ, ?_, fun j => ?_, Fr.rf _ _⟩
    · unfold f_M_marry_L76
      have : nI i ≤ nI i := Int32.le_refl _
      simp only [gupE, gltE, gllE, litE, litLE, bindE, ↓reduceIte, gsi_at, gsi_l2, gsl_at, gsl_i1, upd_at, updL_at, Nat.reduceEqDiff, gix_nI, nI_clamp, bI_0, bI_gzb, Bool.true_eq_false, Bool.false_eq_true, h6, this, cm, Nat.add_zero]
    · rw [if_neg (by omega)]
  | succ t ih =>
    intro i fu acc σ hi hf ha h6 hk
    obtain ⟨f, rfl⟩ : ∃ f, fu = f + 1 := ⟨fu - 1, by omega⟩
    have hi6 : ¬ n ≤ i := by omega
    have hKi := hK i (by omega)
    have hki := hk i (Nat.le_refl _) (by omega)
    by_cases e : K i = g
    · obtain ⟨τ, e1, e2, e3⟩ := ih (i + 1) f (acc + 1) (gpi σ 60 i (nI l)) (by omega) (by omega) (by omega) (by simp only [gsi_at, upd_at, Nat.reduceEqDiff, ↓reduceIte]; exact h6) (fun c h1 h2 => by
        have : ¬ c = i := by omega
        simp only [gsi_at, upd_at, ↓reduceIte, this]
        exact hk c (by omega) h2)
      refine ⟨τ, ?_, fun j => ?_, ((Fr.rf _ σ).pi rfl).tr e3⟩
      · unfold f_M_marry_L76 f_M_marry_j113 f_M_marry_j132
        simp (disch := omega) only [gupE, gltE, gllE, litE, litLE, bindE, ↓reduceIte, gsi_at, gsi_l2, gsl_at, gsl_i1, upd_at, updL_at, Nat.reduceEqDiff, gix_nI, nI_clamp, bI_0, bI_gzb, Bool.true_eq_false, Bool.false_eq_true, h6, nI_leI, hi6, hki, e, nI_add]
        rw [e1]
        simp only [cm, e, true_or, ↓reduceIte, Nat.add_assoc]
      · rw [e2]
        by_cases q : j = i
        · subst q
          rw [if_neg (by omega), if_pos (by omega), if_pos e]
          simp only [gsi_at, upd_at, ↓reduceIte]
        · by_cases q2 : i + 1 ≤ j ∧ j < n
          · rw [if_pos q2, if_pos (show i ≤ j ∧ j < n by omega)]
          · rw [if_neg q2, if_neg (show ¬ (i ≤ j ∧ j < n) by omega)]
            simp only [gsi_at, upd_at, ↓reduceIte, q]
    · have eg : ¬ nI (K i) = nI g := by rw [nI_eq (by omega) (by omega)]; exact e
      obtain ⟨τ, e1, e2, e3⟩ := ih (i + 1) f (acc + if K i = l then 1 else 0) (gpi σ 60 i (nI (K i))) (by omega) (by omega) (by split <;> omega) (by simp only [gsi_at, upd_at, Nat.reduceEqDiff, ↓reduceIte]; exact h6) (fun c h1 h2 => by
        have : ¬ c = i := by omega
        simp only [gsi_at, upd_at, ↓reduceIte, this]
        exact hk c (by omega) h2)
      refine ⟨τ, ?_, fun j => ?_, ((Fr.rf _ σ).pi rfl).tr e3⟩
      · unfold f_M_marry_L76 f_M_marry_j113 f_M_marry_j132
        by_cases el : K i = l
        · have egl : ¬ nI l = nI g := by rw [← el]; exact eg
          simp only [el, ↓reduceIte] at e1 hki
          simp (disch := omega) only [gupE, gltE, gllE, litE, litLE, bindE, ↓reduceIte, gsi_at, gsi_l2, gsl_at, gsl_i1, upd_at, updL_at, Nat.reduceEqDiff, gix_nI, nI_clamp, bI_0, bI_gzb, Bool.true_eq_false, Bool.false_eq_true, h6, nI_leI, hi6, hki, egl, nI_add]
          rw [e1]
          simp only [cm, el, or_true, ↓reduceIte, Nat.add_assoc]
        · have eln : ¬ nI (K i) = nI l := by rw [nI_eq (by omega) (by omega)]; exact el
          simp only [el, ↓reduceIte, Nat.add_zero] at e1
          simp (disch := omega) only [gupE, gltE, gllE, litE, litLE, bindE, ↓reduceIte, gsi_at, gsi_l2, gsl_at, gsl_i1, upd_at, updL_at, Nat.reduceEqDiff, gix_nI, nI_clamp, bI_0, bI_gzb, Bool.true_eq_false, Bool.false_eq_true, h6, nI_leI, hi6, hki, eg, eln, nI_add, Nat.add_zero]
          rw [e1]
          simp only [cm, e, el, or_self, ↓reduceIte, Nat.zero_add]
      · rw [e2]
        by_cases q : j = i
        · subst q
          rw [if_neg (by omega), if_pos (by omega), if_neg e]
          simp only [gsi_at, upd_at, ↓reduceIte]
        · by_cases q2 : i + 1 ≤ j ∧ j < n
          · rw [if_pos q2, if_pos (show i ≤ j ∧ j < n by omega)]
          · rw [if_neg q2, if_neg (show ¬ (i ≤ j ∧ j < n) by omega)]
            simp only [gsi_at, upd_at, ↓reduceIte, q]
theorem Mmarry_two (v : Int32) (σ : gS) : f_M_marry v σ = if two v 8 = true then (if v / nI 10 = grem v (nI 10) then some (-nI 1, σ) else if grem v (nI 10) ≤ v / nI 10 then f_M_marry_j57 v (grem v (nI 10)) σ else f_M_marry_j57 v (v / nI 10) σ) else some (-nI 1, σ) := by
  unfold f_M_marry
  by_cases h : v.toInt < 0
  · have h' : v < nI 0 := by rw [lt0_iff]; exact h
    have h2 := two_neg (s := 8) h
    generalize f_M_marry_j57 v = G
    simp only [litE, h', h2, ↓reduceIte, Bool.false_eq_true]
  · obtain ⟨j, hj, rfl⟩ := nonneg_nI (v := v) (by omega)
    generalize f_M_marry_j57 (nI j) = G
    simp (disch := omega) only [litE, not_lt0, pk_div, grem_nI, nI_leI, two_nI, ↓reduceIte]
    by_cases h1 : 8 ≤ j / 10
    · have h2 : ¬ j / 10 < 8 := by omega
      simp [h1, h2]
    · have h2 : j / 10 < 8 := by omega
      by_cases h3 : 8 ≤ j % 10
      · have h4 : ¬ j % 10 < 8 := by omega
        simp [h1, h2, h3, h4]
      · have h4 : j % 10 < 8 := by omega
        simp [h1, h2, h3, h4]
theorem ag_marry (v : Int32) : Agr (f_T_marry v) (f_M_marry v) := by
  intro σ hR
  have hR0 := hR
  obtain ⟨n, K, E, P, B, F, W, D, m, hP, hT, hL, hC, hLe, hPi, hW, hS, h0⟩ := hR
  obtain ⟨⟨hn, h1, h2⟩, p4, p5, p6, hD, d1, d2⟩ := id hP
  obtain ⟨l1, l2, l3⟩ := id hLe
  rw [show f_T_marry v = fun σ => f_T_marry v σ from rfl]
  simp only [Mmarry_two]
  unfold f_T_marry
  simp (disch := omega) only [gupE, gltE, gllE, litE, litLE, bindE, ↓reduceIte, gsi_at, gsi_l2, gsl_at, gsl_i1, upd_at, updL_at, Nat.reduceEqDiff, gix_nI, nI_clamp, bI_0, bI_gzb, Bool.true_eq_false, Bool.false_eq_true, areTwo_eq]
  cases h8 : two v 8 with
  | false => exact ⟨_, σ, σ, rfl, by simp only [Bool.false_eq_true, ↓reduceIte], hR0⟩
  | true =>
    obtain ⟨a, b, ha, hb, hv, hq, hr⟩ := two_of (by decide) h8
    simp only [hq, hr, Bool.true_eq_false, ↓reduceIte]
    by_cases hab : a = b
    · subst hab
      exact ⟨_, σ, σ, if_pos rfl, by simp only [↓reduceIte], hR0⟩
    · have e0 : ¬ nI a = nI b := by rw [nI_eq (by omega) (by omega)]; exact hab
      have w3 : inb (nI 2) 5 = true := by decide
      simp (disch := omega) only [e0, ↓reduceIte, gmin_nI, gmax_nI, nI_leI]
      obtain ⟨l, hl⟩ : ∃ l, l = min a b := ⟨_, rfl⟩
      obtain ⟨g, hg⟩ : ∃ g, g = max a b := ⟨_, rfl⟩
      rw [← hl, ← hg]
      obtain ⟨s, hs⟩ : ∃ s, s = gpi σ 37 2 (σ.1 37 2 + nI 1) := ⟨_, rfl⟩
      have hadd : f_Le_add 36 (nI 2) (nI 1) σ = some s := by
        unfold f_Le_add
        rw [hs]
        simp (disch := omega) only [gupE, gltE, gllE, litE, litLE, bindE, ↓reduceIte, gsi_at, gsi_l2, gsl_at, gsl_i1, upd_at, updL_at, Nat.reduceEqDiff, gix_nI, nI_clamp, bI_0, bI_gzb, Bool.true_eq_false, Bool.false_eq_true, within_eq, w3, Nat.reduceAdd]
      have sr : ∀ c k, c ≠ 37 → s.1 c k = σ.1 c k := fun c k q => by rw [hs, gpi_at, if_neg (fun z => q z.1)]
      obtain ⟨ρ, e1, e2, e3⟩ := join5 hn (l := l) (g := g) (by omega) (by omega) K (fun c hc => (p4 c hc).1.1) n 0 gfu 0 s (by omega) (by show n < 2000; omega) (by omega) ((sr 1 6 (by decide)).trans h1) (fun c _ hc => (sr 2 c (by decide)).trans (p4 c hc).2.1.1)
      have u : ∀ c k, c ≠ 2 → c ≠ 37 → ρ.1 c k = σ.1 c k := fun c k x1 x2 => (only_ne e3 x1 k).trans (sr c k x2)
      obtain ⟨τ, g1, g2, g3⟩ := marry76 hn (l := l) (g := g) (by omega) (by omega) K (fun c hc => (p4 c hc).1.1) n 0 gfu 0 ρ (by omega) (by show n < 2000; omega) (by omega) ((u 59 6 (by decide) (by decide)).trans h2) (fun c _ hc => (u 60 c (by decide) (by decide)).trans (p4 c hc).2.2.1)
      obtain ⟨υ, hυ⟩ : ∃ υ, υ = gpi τ 71 2 (τ.1 71 2 + nI 1) := ⟨_, rfl⟩
      have v71 : ∀ c k, c ≠ 71 → υ.1 c k = τ.1 c k := fun c k q => by rw [hυ, gpi_at, if_neg (fun z => q z.1)]
      have v60 : ∀ j, υ.1 60 j = if 0 ≤ j ∧ j < n then nI (if K j = g then l else K j) else σ.1 60 j := fun j => by rw [v71 60 j (by decide), g2, u 60 j (by decide) (by decide)]
      have vo : ∀ c k, c ≠ 2 → c ≠ 37 → c ≠ 60 → c ≠ 71 → υ.1 c k = σ.1 c k := fun c k x1 x2 x3 x4 => by rw [v71 c k x4, only_ne g3 x3, u c k x1 x2]
      have f1 : Fr (inT [1, 5]) σ υ := by
        have fs : Fr (inT [1, 5]) σ s := by
          rw [hs]
          exact (Fr.rf _ σ).pi rfl
        have fu : Fr (inT [1, 5]) τ υ := by
          rw [hυ]
          exact (Fr.rf _ τ).pi rfl
        refine ((fs.tr (e3.sub fun c k q => ?_)).tr (g3.sub fun c k q => ?_)).tr fu
        · cases e : only 2 c k with
          | false => rfl
          | true =>
            simp only [only, beq_iff_eq] at e
            subst e
            exact absurd q (by rw [show inT [1, 5] 2 k = true from rfl]; decide)
        · cases e : only 60 c k with
          | false => rfl
          | true =>
            simp only [only, beq_iff_eq] at e
            subst e
            exact absurd q (by rw [show inT [1, 5] 60 k = true from rfl]; decide)
      have hPn : Peo υ n (fun c => if K c = g then l else K c) E P B F W D := by
        refine hP.mk2 (fun c hc => ?_) (fun c hc => ?_) ⟨hD, ?_, ?_⟩ ⟨?_, ?_, ?_, ?_⟩ (fun c => ⟨?_, ?_⟩) (fun c hc => ⟨?_, ?_⟩) ⟨?_, ?_⟩
        · refine ⟨?_, ?_, ?_⟩
          · have := (p4 c hc).1.1
            show (if K c = g then l else K c) < 8
            split <;> omega
          · rw [v71 2 c (by decide), only_ne g3 (by decide), e2, if_pos ⟨Nat.zero_le _, hc⟩]
          · rw [v60, if_pos ⟨Nat.zero_le _, hc⟩]
        · refine ⟨(p4 c hc).1.2.2.2, ?_, ?_⟩
          · rw [vo 5 c (by decide) (by decide) (by decide) (by decide)]
            exact (p4 c hc).2.1.2.2.2
          · rw [v60, if_neg (by omega)]
            exact (p4 c hc).2.2.2.2.2
        · rw [vo 1 9 (by decide) (by decide) (by decide) (by decide), d1]
        · rw [v60, if_neg (by omega), d2]
        · exact vo 1 6 (by decide) (by decide) (by decide) (by decide)
        · exact vo 1 7 (by decide) (by decide) (by decide) (by decide)
        · exact vo 1 8 (by decide) (by decide) (by decide) (by decide)
        · exact vo 59 6 (by decide) (by decide) (by decide) (by decide)
        · exact vo 3 c (by decide) (by decide) (by decide) (by decide)
        · exact vo 4 c (by decide) (by decide) (by decide) (by decide)
        · rw [v60, if_neg (by omega)]
        · rw [v60, if_neg (by omega)]
        · rw [v60, if_neg (by omega)]
        · rw [v60, if_neg (by omega)]
      refine ⟨nI (0 + cm K l g 0 n), ρ, υ, ?_, ?_, n, _, E, P, B, F, W, D, m, hPn, kTap f1 rfl hT, kLw f1 rfl hL, kChg f1 rfl hC, ⟨fun i hi => ?_, ?_, ?_⟩, kPic f1 rfl hPi, kWrd f1 rfl hW, kShv f1 rfl hS, k0 f1 rfl h0⟩
      · rw [hadd]
        show (f_Isl_join (nI l) (nI g) s).bind (fun q5 => some (q5.1, q5.2)) = _
        have : f_Isl_join (nI l) (nI g) s = f_Isl_join_L5 gfu (nI l) (nI g) (nI 0) (nI 0) s := by
          unfold f_Isl_join
          generalize f_Isl_join_L5 gfu = G
          simp only [litE]
        rw [this, e1]
        rfl
      · have hj : ∀ x y : Nat, x < 8 → y < 8 → f_M_marry_j57 v (nI x) ρ = f_M_marry_L76 gfu (nI x) ((nI a + nI b) - nI x) (nI 0) (nI 0) ρ := by
          intro x y _ _
          unfold f_M_marry_j57
          generalize f_M_marry_L76 gfu = G
          simp only [litE, gltE, hq, hr]
        by_cases hle : b ≤ a
        · simp only [hle, ↓reduceIte]
          rw [hj b a hb ha, nI_add, pk_sub (by omega), show a + b - b = g by omega, show b = l by omega, g1, ← hυ]
        · simp only [hle, ↓reduceIte]
          rw [hj a b ha hb, nI_add, pk_sub (by omega), show a + b - a = g by omega, show a = l by omega, g1, ← hυ]
      · have r1 : υ.1 37 i = if i = 2 then σ.1 37 2 + nI 1 else σ.1 37 i := by
          rw [v71 37 i (by decide), only_ne g3 (by decide), only_ne e3 (by decide), hs]
          simp only [gsi_at, upd_at, ↓reduceIte]
        have r2 : υ.1 71 i = if i = 2 then σ.1 71 2 + nI 1 else σ.1 71 i := by
          have z : ∀ k, τ.1 71 k = σ.1 71 k := fun k => by rw [only_ne g3 (by decide), u 71 k (by decide) (by decide)]
          rw [hυ]
          simp only [gsi_at, upd_at, ↓reduceIte, z]
        rw [r1, r2, l1 i hi, l1 2 (by decide)]
      · rw [vo 36 1 (by decide) (by decide) (by decide) (by decide), vo 59 21 (by decide) (by decide) (by decide) (by decide)]
        exact l2
      · rw [vo 36 2 (by decide) (by decide) (by decide) (by decide), vo 59 22 (by decide) (by decide) (by decide) (by decide)]
        exact l3
