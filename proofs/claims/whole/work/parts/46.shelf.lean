/-! pure: shelves -/
theorem Sh1.ag {σ υ : gS} {m e : Nat} (h : Sh1 σ m e) (h1 : ∀ k, υ.1 (47 + 2 * e) k = σ.1 (47 + 2 * e) k) (h2 : υ.1 76 e = σ.1 76 e) (h3 : υ.1 77 e = σ.1 77 e) (h4 : ∀ k, υ.2 (48 + 2 * e) k = σ.2 (48 + 2 * e) k) (h5 : ∀ k, k < 60 → υ.2 78 (60 * e + k) = σ.2 78 (60 * e + k)) : Sh1 υ m e := by
  unfold Sh1 at h ⊢
  simp only [h1, h2, h3, h4]
  rcases h with h | h | ⟨s, z, q1, q2, q3, q4⟩
  · exact Or.inl h
  · exact Or.inr (Or.inl h)
  · exact Or.inr (Or.inr ⟨s, z, q1, q2, q3, fun i hi => by rw [h5 i hi]; exact q4 i hi⟩)
theorem Shv.upd {σ υ : gS} {m d : Nat} (h : Shv σ m) (hd : Sh1 υ m d) (ho : ∀ e, e < 6 → e ≠ d → (∀ k, υ.1 (47 + 2 * e) k = σ.1 (47 + 2 * e) k) ∧ υ.1 76 e = σ.1 76 e ∧ υ.1 77 e = σ.1 77 e ∧ (∀ k, υ.2 (48 + 2 * e) k = σ.2 (48 + 2 * e) k) ∧ (∀ k, k < 60 → υ.2 78 (60 * e + k) = σ.2 78 (60 * e + k))) : Shv υ m := by
  intro e he
  by_cases q : e = d
  · rw [q]
    exact hd
  · obtain ⟨h1, h2, h3, h4, h5⟩ := ho e he q
    exact (h e he).ag h1 h2 h3 h4 h5
theorem R.shv {σ υ : gS} (hR : R σ) (hF : Fr (inT [8]) σ υ) (h : ∀ m, Wrd σ m → Shv σ m → Shv υ m) : R υ := by
  obtain ⟨n, K, E, P, B, F, W, D, m, hP, hT, hL, hC, hLe, hPi, hW, hS, h0⟩ := hR
  exact ⟨n, K, E, P, B, F, W, D, m, kPeo hF rfl hP, kTap hF rfl hT, kLw hF rfl hL, kChg hF rfl hC, kLed hF rfl hLe, kPic hF rfl hPi, kWrd hF rfl hW, h m hW hS, k0 hF rfl h0⟩
theorem gshc_nI {d : Nat} (hd : d < 6) : gshc (nI d) = 47 + 2 * d := by
  unfold gshc
  rw [nI_clamp (by omega)]
theorem isShelf_eq (v : Int32) : f_M_isShelf v = some (bI (inb v 6)) := by
  unfold f_M_isShelf
  simp only [gupE, gltE, gllE, litE, litLE, bindE, ↓reduceIte, gsi_at, gsi_l2, gsl_at, gsl_i1, upd_at, updL_at, Nat.reduceEqDiff, gix_nI, nI_clamp, bI_0, bI_gzb, Bool.true_eq_false, Bool.false_eq_true, Mwithin0 v (b := 5) (by decide)]
theorem inS {c k : Nat} (h : cShv c k = true) : inT [8] c k = true := by
  unfold inT
  rw [comp_8 h]
  rfl
theorem inS47 {d : Nat} (hd : d < 6) (k : Nat) : inT [8] (47 + 2 * d) k = true := inS (cShv_c (by omega) k)
theorem inS48 {d : Nat} (hd : d < 6) (k : Nat) : inT [8] (48 + 2 * d) k = true := inS (cShv_c (by omega) k)
def hasb (z : Nat) (v1 v2 : Int32) : Bool := decide (0 ≤ v1.toInt ∧ 0 ≤ v2.toInt ∧ v1.toInt + v2.toInt ≤ (z : Int))
theorem has_gen {σ : gS} {c z : Nat} (h : σ.1 c 4 = nI z) (hz : z ≤ 60) (v1 v2 : Int32) : f_Sh_has c v1 v2 σ = some (bI (hasb z v1 v2)) := by
  unfold f_Sh_has hasb
  simp only [gupE, gltE, gllE, litE, litLE, bindE, ↓reduceIte, gsi_at, gsi_l2, gsl_at, gsl_i1, upd_at, updL_at, Nat.reduceEqDiff, gix_nI, nI_clamp, bI_0, bI_gzb, Bool.true_eq_false, Bool.false_eq_true, h, lt0_iff]
  by_cases h1 : v1.toInt < 0
  · have e : decide (0 ≤ v1.toInt ∧ 0 ≤ v2.toInt ∧ v1.toInt + v2.toInt ≤ (z : Int)) = false := decide_eq_false (by omega)
    rw [if_pos h1, e]
    rfl
  · by_cases h2 : v2.toInt < 0
    · have e : decide (0 ≤ v1.toInt ∧ 0 ≤ v2.toInt ∧ v1.toInt + v2.toInt ≤ (z : Int)) = false := decide_eq_false (by omega)
      rw [if_neg h1, if_pos h2, e]
      rfl
    · rw [if_neg h1, if_neg h2]
      obtain ⟨a, ha, rfl⟩ := nonneg_nI (v := v1) (by omega)
      obtain ⟨b, hb, rfl⟩ := nonneg_nI (v := v2) (by omega)
      simp (disch := omega) only [nI_ltI, nI_toInt]
      by_cases h3 : z < a
      · have e : decide (0 ≤ (a : Int) ∧ 0 ≤ (b : Int) ∧ (a : Int) + b ≤ (z : Int)) = false := decide_eq_false (by omega)
        rw [if_pos h3, e]
        rfl
      · rw [if_neg h3]
        simp (disch := omega) only [pk_sub, nI_ltI]
        by_cases h4 : z - a < b
        · have e : decide (0 ≤ (a : Int) ∧ 0 ≤ (b : Int) ∧ (a : Int) + b ≤ (z : Int)) = false := decide_eq_false (by omega)
          rw [if_pos h4, e]
          rfl
        · have e : decide (0 ≤ (a : Int) ∧ 0 ≤ (b : Int) ∧ (a : Int) + b ≤ (z : Int)) = true := decide_eq_true (by omega)
          rw [if_neg h4, e]
          rfl
theorem hasb1 (z : Nat) (v : Int32) : hasb z v (nI 1) = inb v z := by
  unfold hasb inb
  rw [nI_toInt (by decide)]
  by_cases h1 : 0 ≤ v.toInt
  · by_cases h2 : v.toInt < (z : Int)
    · rw [decide_eq_true (by omega), decide_eq_true h1, decide_eq_true h2]
      rfl
    · rw [decide_eq_false (by omega), decide_eq_true h1, decide_eq_false h2]
      rfl
  · rw [decide_eq_false (by omega), decide_eq_false h1]
    rfl
theorem neg11 : (0 ≤ -nI 1) = False := by decide
theorem m1_lt0 : (-1 : Int32) < nI 0 := by decide
theorem isBody_eq {σ : gS} {m : Nat} (h : σ.1 59 30 = nI m) (hm : m ≤ 50) (v : Int32) : f_M_isBody v σ = some (bI (inb v m)) := by
  unfold f_M_isBody
  simp only [litE, litLE, h]
  have h2 : (nI m - nI 1).toInt = (m : Int) - 1 := nI_subI (by omega) (by decide)
  have h1 : f_M_within v.toInt64 (lN 0) ((nI m - nI 1).toInt64) = some (bI (inb v m)) := by
    rw [Mwithin, Int32.toInt_toInt64, Int32.toInt_toInt64, h2, lN_tI (by decide)]
    unfold inb
    have : (v.toInt ≤ (m : Int) - 1) = (v.toInt < ((m : Nat) : Int)) := by
      apply propext
      omega
    simp [this]
  simp only [gupE, gltE, gllE, litE, litLE, bindE, ↓reduceIte, gsi_at, gsi_l2, gsl_at, gsl_i1, upd_at, updL_at, Nat.reduceEqDiff, gix_nI, nI_clamp, bI_0, bI_gzb, Bool.true_eq_false, Bool.false_eq_true, h1]
theorem ag_keep (v1 v2 : Int32) : Agr (f_T_keep v1 v2) (f_M_keep v1 v2) := by
  intro σ hR
  have hR0 := hR
  obtain ⟨n, K, E, P, B, F, W, D, m, hP, hT, hL, hC, hLe, hPi, hW, hS, h0⟩ := hR
  obtain ⟨⟨hm, w1, w2⟩, -⟩ := id hW
  unfold f_T_keep f_M_keep
  cases hv : inb v1 6 with
  | false =>
    refine ⟨-nI 1, σ, σ, ?_, ?_, hR0⟩
    · simp (disch := omega) only [gupE, gltE, gllE, litE, litLE, bindE, ↓reduceIte, gsi_at, gsi_l2, gsl_at, gsl_i1, upd_at, updL_at, Nat.reduceEqDiff, gix_nI, nI_clamp, bI_0, bI_gzb, Bool.true_eq_false, Bool.false_eq_true, within_eq, hv]
    · simp (disch := omega) only [gupE, gltE, gllE, litE, litLE, bindE, ↓reduceIte, gsi_at, gsi_l2, gsl_at, gsl_i1, upd_at, updL_at, Nat.reduceEqDiff, gix_nI, nI_clamp, bI_0, bI_gzb, Bool.true_eq_false, Bool.false_eq_true, isShelf_eq, hv]
  | true =>
    obtain ⟨d, hd, rfl⟩ := inb_of hv (by omega)
    have main : ∀ hw : (v2 = -nI 1 ∨ ∃ w, w < m ∧ v2 = nI w), ∃ (x : Int32) (τ υ : gS), f_T_keep_j30 (nI d) v2 σ = some (x, τ) ∧ f_M_keep_j22 (nI d) v2 τ = some (x, υ) ∧ R υ := by
      intro hw
      obtain ⟨hold, hh⟩ : ∃ h, f_Sh_holdWord (47 + 2 * d) v2 σ = some (gpi (gpi σ (47 + 2 * d) 1 h) (47 + 2 * d) 2 v2) ∧ ((h = nI 0 ∧ v2 = -nI 1) ∨ (h = nI 1 ∧ ∃ w, w < m ∧ v2 = nI w)) := by
        rcases hw with rfl | ⟨w, hw, rfl⟩
        · refine ⟨nI 0, ?_, Or.inl ⟨rfl, rfl⟩⟩
          unfold f_Sh_holdWord f_Sh_holdWord_j10
          have : (nI 0 ≤ -nI 1) = False := by decide
          simp only [gupE, gltE, gllE, litE, litLE, bindE, ↓reduceIte, gsi_at, gsi_l2, gsl_at, gsl_i1, upd_at, updL_at, Nat.reduceEqDiff, gix_nI, nI_clamp, bI_0, bI_gzb, Bool.true_eq_false, Bool.false_eq_true, this]
        · refine ⟨nI 1, ?_, Or.inr ⟨rfl, w, hw, rfl⟩⟩
          unfold f_Sh_holdWord f_Sh_holdWord_j10
          have : nI 0 ≤ nI w := nI_pos' (by omega)
          simp only [gupE, gltE, gllE, litE, litLE, bindE, ↓reduceIte, gsi_at, gsi_l2, gsl_at, gsl_i1, upd_at, updL_at, Nat.reduceEqDiff, gix_nI, nI_clamp, bI_0, bI_gzb, Bool.true_eq_false, Bool.false_eq_true, this]
      obtain ⟨he, hcase⟩ := hh
      obtain ⟨τ, hτ⟩ : ∃ τ, τ = gpi (gpi σ (47 + 2 * d) 1 hold) (47 + 2 * d) 2 v2 := ⟨_, rfl⟩
      obtain ⟨υ, hυ⟩ : ∃ υ, υ = gpi (gpi τ 76 d v2) 77 d (nI 0) := ⟨_, rfl⟩
      have r1 : ∀ c k, υ.1 c k = if c = 77 ∧ k = d then nI 0 else if c = 76 ∧ k = d then v2 else if c = 47 + 2 * d ∧ k = 2 then v2 else if c = 47 + 2 * d ∧ k = 1 then hold else σ.1 c k := fun c k => by
        rw [hυ, hτ, gpi_at, gpi_at, gpi_at, gpi_at]
      have r2 : υ.2 = σ.2 := by
        rw [hυ, hτ]
        rfl
      refine ⟨nI 1, τ, υ, ?_, ?_, hR0.shv ?_ fun m' hW' hS' => ?_⟩
      · unfold f_T_keep_j30
        simp (disch := omega) only [gupE, gltE, gllE, litE, litLE, bindE, ↓reduceIte, gsi_at, gsi_l2, gsl_at, gsl_i1, upd_at, updL_at, Nat.reduceEqDiff, gix_nI, nI_clamp, bI_0, bI_gzb, Bool.true_eq_false, Bool.false_eq_true, gshc_nI hd, he, hτ]
      · unfold f_M_keep_j22
        simp (disch := omega) only [gupE, gltE, gllE, litE, litLE, bindE, ↓reduceIte, gsi_at, gsi_l2, gsl_at, gsl_i1, upd_at, updL_at, Nat.reduceEqDiff, gix_nI, nI_clamp, bI_0, bI_gzb, Bool.true_eq_false, Bool.false_eq_true, hυ]
      · rw [hυ, hτ]
        exact ((((Fr.rf _ σ).pi (inS47 hd 1)).pi (inS47 hd 2)).pi (inS rfl)).pi (inS rfl)
      · have hmm : m' = m := by
          have := hW'.1.2.1
          rw [w1] at this
          have := (nI_eq (by omega) (by have := hW'.1.1; omega)).mp this
          omega
        subst hmm
        refine hS'.upd (d := d) ?_ fun e he hne => ⟨fun k => ?_, ?_, ?_, fun k => ?_, fun k hk => ?_⟩
        · unfold Sh1
          rw [r1 (47 + 2 * d) 1, r1 76 d, r1 (47 + 2 * d) 2]
          rw [if_neg (by omega), if_neg (by omega), if_neg (by omega), if_pos ⟨rfl, rfl⟩, if_neg (by omega), if_pos ⟨rfl, rfl⟩, if_neg (by omega), if_neg (by omega), if_pos ⟨rfl, rfl⟩]
          rcases hcase with ⟨q1, q2⟩ | ⟨q1, w, q2, q3⟩
          · exact Or.inl ⟨q1, by rw [q2]; rfl⟩
          · exact Or.inr (Or.inl ⟨w, q2, q1, q3, q3⟩)
        · rw [r1, if_neg (by omega), if_neg (by omega), if_neg (by omega), if_neg (by omega)]
        · rw [r1, if_neg (by omega), if_neg (by omega), if_neg (by omega), if_neg (by omega)]
        · rw [r1, if_neg (by omega), if_neg (by omega), if_neg (by omega), if_neg (by omega)]
        · rw [r2]
        · rw [r2]
    by_cases h1 : v2 = -nI 1
    · obtain ⟨x, τ, υ, e1, e2, e3⟩ := main (Or.inl h1)
      refine ⟨x, τ, υ, ?_, ?_, e3⟩
      · simp (disch := omega) only [gupE, gltE, gllE, litE, litLE, bindE, ↓reduceIte, gsi_at, gsi_l2, gsl_at, gsl_i1, upd_at, updL_at, Nat.reduceEqDiff, gix_nI, nI_clamp, bI_0, bI_gzb, Bool.true_eq_false, Bool.false_eq_true, within_eq, hv, h1]
        rw [← h1]
        exact e1
      · simp (disch := omega) only [gupE, gltE, gllE, litE, litLE, bindE, ↓reduceIte, gsi_at, gsi_l2, gsl_at, gsl_i1, upd_at, updL_at, Nat.reduceEqDiff, gix_nI, nI_clamp, bI_0, bI_gzb, Bool.true_eq_false, Bool.false_eq_true, isShelf_eq, hv, h1]
        rw [← h1]
        exact e2
    · cases hb : inb v2 m with
      | false =>
        refine ⟨-nI 1, σ, σ, ?_, ?_, hR0⟩
        · simp (disch := omega) only [gupE, gltE, gllE, litE, litLE, bindE, ↓reduceIte, gsi_at, gsi_l2, gsl_at, gsl_i1, upd_at, updL_at, Nat.reduceEqDiff, gix_nI, nI_clamp, bI_0, bI_gzb, Bool.true_eq_false, Bool.false_eq_true, within_eq, hv, h1, w1, hb]
        · simp (disch := omega) only [gupE, gltE, gllE, litE, litLE, bindE, ↓reduceIte, gsi_at, gsi_l2, gsl_at, gsl_i1, upd_at, updL_at, Nat.reduceEqDiff, gix_nI, nI_clamp, bI_0, bI_gzb, Bool.true_eq_false, Bool.false_eq_true, isShelf_eq, hv, h1, isBody_eq w2 hm, hb]
      | true =>
        obtain ⟨w, hw, hw2⟩ := inb_of hb (by omega)
        obtain ⟨x, τ, υ, e1, e2, e3⟩ := main (Or.inr ⟨w, hw, hw2⟩)
        have w3 : τ.1 59 30 = nI m := by
          have := e1
          unfold f_T_keep_j30 at this
          simp (disch := omega) only [gupE, gltE, gllE, litE, litLE, bindE, ↓reduceIte, gsi_at, gsi_l2, gsl_at, gsl_i1, upd_at, updL_at, Nat.reduceEqDiff, gix_nI, nI_clamp, bI_0, bI_gzb, Bool.true_eq_false, Bool.false_eq_true, gshc_nI hd] at this
          have hn0 : (nI 0 ≤ nI w) = True := by
            have : nI 0 ≤ nI w := nI_pos' (by omega)
            simp [this]
          rw [hw2] at this
          unfold f_Sh_holdWord f_Sh_holdWord_j10 at this
          simp (disch := omega) only [gupE, gltE, gllE, litE, litLE, bindE, ↓reduceIte, gsi_at, gsi_l2, gsl_at, gsl_i1, upd_at, updL_at, Nat.reduceEqDiff, gix_nI, nI_clamp, bI_0, bI_gzb, Bool.true_eq_false, Bool.false_eq_true, hn0] at this
          injection this with this
          injection this with _ this
          rw [← this, gpi_at, gpi_at, if_neg (by omega), if_neg (by omega)]
          exact w2
        refine ⟨x, τ, υ, ?_, ?_, e3⟩
        · simp (disch := omega) only [gupE, gltE, gllE, litE, litLE, bindE, ↓reduceIte, gsi_at, gsi_l2, gsl_at, gsl_i1, upd_at, updL_at, Nat.reduceEqDiff, gix_nI, nI_clamp, bI_0, bI_gzb, Bool.true_eq_false, Bool.false_eq_true, within_eq, hv, h1, w1, hb]
          exact e1
        · simp (disch := omega) only [gupE, gltE, gllE, litE, litLE, bindE, ↓reduceIte, gsi_at, gsi_l2, gsl_at, gsl_i1, upd_at, updL_at, Nat.reduceEqDiff, gix_nI, nI_clamp, bI_0, bI_gzb, Bool.true_eq_false, Bool.false_eq_true, isShelf_eq, hv, h1, isBody_eq w3 hm, hb]
          exact e2
theorem i_eq32 (d : Nat) : nI 60 * nI d = nI (60 * d) := pk_mul 60 d
theorem Mrow57 {d : Nat} (hd : d < 6) (σ : gS) : ∃ τ, f_M_row_L57 gfu (nI d) (nI (60 * d)) σ = some (nI 1, τ) ∧ τ.1 = σ.1 ∧ (∀ c k, c ≠ 78 → τ.2 c k = σ.2 c k) ∧ ∀ k, τ.2 78 k = if 60 * d ≤ k ∧ k < 60 * d + 60 then lN 0 else σ.2 78 k := by
  refine loopG (fun fu i a => f_M_row_L57 fu (nI d) (nI i) a) (fun o => ∃ τ, o = some (nI 1, τ) ∧ τ.1 = σ.1 ∧ (∀ c k, c ≠ 78 → τ.2 c k = σ.2 c k) ∧ ∀ k, τ.2 78 k = if 60 * d ≤ k ∧ k < 60 * d + 60 then lN 0 else σ.2 78 k) (fun i τ => 60 * d ≤ i ∧ τ.1 = σ.1 ∧ (∀ c k, c ≠ 78 → τ.2 c k = σ.2 c k) ∧ ∀ k, τ.2 78 k = if 60 * d ≤ k ∧ k < i then lN 0 else σ.2 78 k) (60 * d + 60) (60 * d) σ (by omega) (by omega) ⟨Nat.le_refl _, rfl, fun _ _ _ => rfl, fun k => by rw [if_neg (by omega)]⟩ ?_ ?_
  · rintro fu i a hi ⟨h1, h2, h3, h4⟩
    left
    refine ⟨gpl a 78 i (lN 0), ?_, by omega, h2, fun c k q => ?_, fun k => ?_⟩
    · have q : ¬ 60 * d + 60 ≤ i := by omega
      simp (disch := omega) only [f_M_row_L57, gupE, gltE, gllE, litE, litLE, bindE, ↓reduceIte, gsi_at, gsi_l2, gsl_at, gsl_i1, upd_at, updL_at, Nat.reduceEqDiff, gix_nI, nI_clamp, bI_0, bI_gzb, Bool.true_eq_false, Bool.false_eq_true, i_eq32, nI_add, nI_leI, q]
    · show (gsl a 78 _).2 c k = _
      rw [gsl_at, if_neg q]
      exact h3 c k q
    · show (gsl a 78 _).2 78 k = _
      rw [gsl_at, if_pos rfl, updL_at, h4]
      by_cases q : k = i
      · rw [if_pos q, if_pos (by omega)]
      · rw [if_neg q]
        by_cases q2 : 60 * d ≤ k ∧ k < i
        · rw [if_pos q2, if_pos (by omega)]
        · rw [if_neg q2, if_neg (by omega)]
  · rintro fu a ⟨h1, h2, h3, h4⟩
    refine ⟨a, ?_, h2, h3, h4⟩
    have q : nI (60 * d + 60) ≤ nI (60 * d + 60) := Int32.le_refl _
    simp (disch := omega) only [f_M_row_L57, gupE, gltE, gllE, litE, litLE, bindE, ↓reduceIte, gsi_at, gsi_l2, gsl_at, gsl_i1, upd_at, updL_at, Nat.reduceEqDiff, gix_nI, nI_clamp, bI_0, bI_gzb, Bool.true_eq_false, Bool.false_eq_true, i_eq32, nI_add, q]
theorem ag_row (v1 v2 v3 : Int32) : Agr (f_T_row v1 v2 v3) (f_M_row v1 v2 v3) := by
  intro σ hR
  unfold f_T_row f_M_row
  cases hv : inb v1 6 with
  | false =>
    refine ⟨-nI 1, σ, σ, ?_, ?_, hR⟩
    · simp (disch := omega) only [gupE, gltE, gllE, litE, litLE, bindE, ↓reduceIte, gsi_at, gsi_l2, gsl_at, gsl_i1, upd_at, updL_at, Nat.reduceEqDiff, gix_nI, nI_clamp, bI_0, bI_gzb, Bool.true_eq_false, Bool.false_eq_true, within_eq, hv]
    · simp (disch := omega) only [gupE, gltE, gllE, litE, litLE, bindE, ↓reduceIte, gsi_at, gsi_l2, gsl_at, gsl_i1, upd_at, updL_at, Nat.reduceEqDiff, gix_nI, nI_clamp, bI_0, bI_gzb, Bool.true_eq_false, Bool.false_eq_true, isShelf_eq, hv]
  | true =>
    obtain ⟨d, hd, rfl⟩ := inb_of hv (by omega)
    cases hv2 : inb v2 5 with
    | false =>
      refine ⟨-nI 1, σ, σ, ?_, ?_, hR⟩
      · simp (disch := omega) only [gupE, gltE, gllE, litE, litLE, bindE, ↓reduceIte, gsi_at, gsi_l2, gsl_at, gsl_i1, upd_at, updL_at, Nat.reduceEqDiff, gix_nI, nI_clamp, bI_0, bI_gzb, Bool.true_eq_false, Bool.false_eq_true, within_eq, hv, hv2]
      · simp (disch := omega) only [gupE, gltE, gllE, litE, litLE, bindE, ↓reduceIte, gsi_at, gsi_l2, gsl_at, gsl_i1, upd_at, updL_at, Nat.reduceEqDiff, gix_nI, nI_clamp, bI_0, bI_gzb, Bool.true_eq_false, Bool.false_eq_true, isShelf_eq, hv, Mwithin0, hv2]
    | true =>
      obtain ⟨s, hs, rfl⟩ := inb_of hv2 (by omega)
      by_cases h60 : v3 ≤ nI 60
      · by_cases h0 : nI 0 ≤ v3
        · have hz : ∃ z, z ≤ 60 ∧ v3 = nI z := by
            rw [i_le, nI_toInt (by decide)] at h60 h0
            obtain ⟨z, hz, rfl⟩ := nonneg_nI (v := v3) (by omega)
            rw [nI_toInt (by omega)] at h60
            exact ⟨z, by omega, rfl⟩
          obtain ⟨z, hz, rfl⟩ := hz
          obtain ⟨τ, hτ⟩ : ∃ τ, τ = gpi (gpi (gpi (gsl σ (48 + 2 * d) (fun i => if i < 60 then lN 0 else σ.2 (48 + 2 * d) i)) (47 + 2 * d) 1 (nI 2)) (47 + 2 * d) 3 (nI s)) (47 + 2 * d) 4 (nI z) := ⟨_, rfl⟩
          obtain ⟨υ, u1, u2, u3, u4⟩ := Mrow57 hd (gpi (gpi τ 76 d (nI (50 + s))) 77 d (nI z))
          have t1 : ∀ c k, τ.1 c k = if c = 47 + 2 * d ∧ k = 4 then nI z else if c = 47 + 2 * d ∧ k = 3 then nI s else if c = 47 + 2 * d ∧ k = 1 then nI 2 else σ.1 c k := fun c k => by
            rw [hτ, gpi_at, gpi_at, gpi_at]
            rfl
          have t2 : ∀ c k, τ.2 c k = if c = 48 + 2 * d then (if k < 60 then lN 0 else σ.2 (48 + 2 * d) k) else σ.2 c k := fun c k => by
            rw [hτ]
            show (gsl σ _ _).2 c k = _
            rw [gsl_at]
          have r1 : ∀ c k, υ.1 c k = if c = 77 ∧ k = d then nI z else if c = 76 ∧ k = d then nI (50 + s) else τ.1 c k := fun c k => by
            rw [u2, gpi_at, gpi_at]
          have r2 : ∀ c k, c ≠ 78 → υ.2 c k = τ.2 c k := fun c k q => u3 c k q
          have r3 : ∀ k, υ.2 78 k = if 60 * d ≤ k ∧ k < 60 * d + 60 then lN 0 else τ.2 78 k := fun k => u4 k
          refine ⟨nI 1, τ, υ, ?_, ?_, hR.shv ?_ fun m' hW' hS' => ?_⟩
          · unfold f_Sh_holdRow f_JA_fillJ
            have e : 47 + 2 * d + 1 = 48 + 2 * d := by omega
            simp (disch := omega) only [gupE, gltE, gllE, litE, litLE, bindE, ↓reduceIte, gsi_at, gsi_l2, gsl_at, gsl_i1, upd_at, updL_at, Nat.reduceEqDiff, gix_nI, nI_clamp, bI_0, bI_gzb, Bool.true_eq_false, Bool.false_eq_true, within_eq, hv, hv2, h60, h0, gshc_nI hd, e, hτ]
          · generalize f_M_row_L57 gfu = G at u1 ⊢
            simp (disch := omega) only [gupE, gltE, gllE, litE, litLE, bindE, ↓reduceIte, gsi_at, gsi_l2, gsl_at, gsl_i1, upd_at, updL_at, Nat.reduceEqDiff, gix_nI, nI_clamp, bI_0, bI_gzb, Bool.true_eq_false, Bool.false_eq_true, isShelf_eq, hv, Mwithin0, hv2, h60, h0, nI_add, i_eq32]
            exact u1
          · refine ⟨fun c k q => ?_, fun c k q => ?_⟩
            · rw [r1, if_neg, if_neg, t1, if_neg, if_neg, if_neg]
              · rintro ⟨rfl, -⟩
                rw [inS47 hd k] at q
                cases q
              · rintro ⟨rfl, -⟩
                rw [inS47 hd k] at q
                cases q
              · rintro ⟨rfl, -⟩
                rw [inS47 hd k] at q
                cases q
              · rintro ⟨rfl, -⟩
                rw [inS rfl] at q
                cases q
              · rintro ⟨rfl, -⟩
                rw [inS rfl] at q
                cases q
            · have q1 : c ≠ 78 := by
                rintro rfl
                rw [inS rfl] at q
                cases q
              rw [r2 c k q1, t2, if_neg]
              rintro rfl
              rw [inS48 hd k] at q
              cases q
          · refine hS'.upd (d := d) ?_ fun e he hne => ⟨fun k => ?_, ?_, ?_, fun k => ?_, fun k hk => ?_⟩
            · right
              right
              refine ⟨s, z, ⟨hs, hz⟩, ⟨?_, ?_, ?_⟩, ⟨?_, ?_⟩, fun i hi => ⟨?_, fun _ => ?_⟩⟩
              · rw [r1, if_neg (by omega), if_neg (by omega), t1, if_neg (by omega), if_neg (by omega), if_pos ⟨rfl, rfl⟩]
              · rw [r1, if_neg (by omega), if_neg (by omega), t1, if_neg (by omega), if_pos ⟨rfl, rfl⟩]
              · rw [r1, if_neg (by omega), if_neg (by omega), t1, if_pos ⟨rfl, rfl⟩]
              · rw [r1, if_neg (by omega), if_pos ⟨rfl, rfl⟩]
              · rw [r1, if_pos ⟨rfl, rfl⟩]
              · rw [r2 _ _ (by omega), t2, if_pos rfl, if_pos hi, r3, if_pos (by omega)]
              · rw [r3, if_pos (by omega)]
                decide
            · rw [r1, if_neg (by omega), if_neg (by omega), t1, if_neg (by omega), if_neg (by omega), if_neg (by omega)]
            · rw [r1, if_neg (by omega), if_neg (by omega), t1, if_neg (by omega), if_neg (by omega), if_neg (by omega)]
            · rw [r1, if_neg (by omega), if_neg (by omega), t1, if_neg (by omega), if_neg (by omega), if_neg (by omega)]
            · rw [r2 _ _ (by omega), t2, if_neg (by omega)]
            · rw [r3, if_neg (by omega), t2, if_neg (by omega)]
        · refine ⟨-nI 14, σ, σ, ?_, ?_, hR⟩
          · simp (disch := omega) only [gupE, gltE, gllE, litE, litLE, bindE, ↓reduceIte, gsi_at, gsi_l2, gsl_at, gsl_i1, upd_at, updL_at, Nat.reduceEqDiff, gix_nI, nI_clamp, bI_0, bI_gzb, Bool.true_eq_false, Bool.false_eq_true, within_eq, hv, hv2, h60, h0]
          · simp (disch := omega) only [gupE, gltE, gllE, litE, litLE, bindE, ↓reduceIte, gsi_at, gsi_l2, gsl_at, gsl_i1, upd_at, updL_at, Nat.reduceEqDiff, gix_nI, nI_clamp, bI_0, bI_gzb, Bool.true_eq_false, Bool.false_eq_true, isShelf_eq, hv, Mwithin0, hv2, h60, h0]
      · refine ⟨-nI 1, σ, σ, ?_, ?_, hR⟩
        · simp (disch := omega) only [gupE, gltE, gllE, litE, litLE, bindE, ↓reduceIte, gsi_at, gsi_l2, gsl_at, gsl_i1, upd_at, updL_at, Nat.reduceEqDiff, gix_nI, nI_clamp, bI_0, bI_gzb, Bool.true_eq_false, Bool.false_eq_true, within_eq, hv, hv2, h60]
        · simp (disch := omega) only [gupE, gltE, gllE, litE, litLE, bindE, ↓reduceIte, gsi_at, gsi_l2, gsl_at, gsl_i1, upd_at, updL_at, Nat.reduceEqDiff, gix_nI, nI_clamp, bI_0, bI_gzb, Bool.true_eq_false, Bool.false_eq_true, isShelf_eq, hv, Mwithin0, hv2, h60]
