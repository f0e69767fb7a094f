/-! pure: counts, whom one meets, one weather alone -/
def sm (g : Nat → Nat) : Nat → Nat
  | 0 => 0
  | k + 1 => sm g k + g k
theorem sm_le {g : Nat → Nat} {B : Nat} (h : ∀ j, g j ≤ B) : ∀ k, sm g k ≤ k * B
  | 0 => Nat.zero_le _
  | k + 1 => by
    have h1 := sm_le h k
    have h2 := h k
    show sm g k + g k ≤ _
    rw [Nat.succ_mul]
    omega
theorem sm_cg {g g2 : Nat → Nat} : ∀ k, (∀ j, j < k → g j = g2 j) → sm g k = sm g2 k
  | 0, _ => rfl
  | k + 1, h => by
    show sm g k + g k = sm g2 k + g2 k
    rw [sm_cg k fun j hj => h j (by omega), h k (by omega)]
theorem sm_add (g g2 : Nat → Nat) : ∀ k, sm (fun j => g j + g2 j) k = sm g k + sm g2 k
  | 0 => rfl
  | k + 1 => by
    show sm (fun j => g j + g2 j) k + (g k + g2 k) = _
    rw [sm_add g g2 k]
    show _ = sm g k + g k + (sm g2 k + g2 k)
    omega
theorem sm_zero : ∀ k, sm (fun _ => 0) k = 0
  | 0 => rfl
  | k + 1 => by
    show sm (fun _ => 0) k + 0 = 0
    rw [sm_zero k]
theorem sm_fub (g : Nat → Nat → Nat) (m : Nat) : ∀ k, sm (fun a => sm (fun b => g a b) m) k = sm (fun b => sm (fun a => g a b) k) m
  | 0 => (sm_zero m).symm
  | k + 1 => by
    show sm (fun a => sm (fun b => g a b) m) k + sm (fun b => g k b) m = sm (fun b => sm (fun a => g a b) k + g k b) m
    rw [sm_fub g m k, ← sm_add]
theorem sm_cut (g : Nat → Nat) (a : Nat) : ∀ d, sm (fun b => if b < a then g b else 0) (a + d) = sm g a
  | 0 => sm_cg _ fun j hj => if_pos hj
  | d + 1 => by
    show sm (fun b => if b < a then g b else 0) (a + d) + (if a + d < a then g (a + d) else 0) = _
    rw [sm_cut g a d, if_neg (by omega)]
    rfl
/-- pairs counted from the lesser one, or from the greater one -/
theorem sm_pairs {f : Nat → Nat → Nat} (hf : ∀ a b, f a b = f b a) (n : Nat) : sm (fun a => sm (fun b => if a < b then f a b else 0) n) n = sm (fun a => sm (fun b => f a b) a) n := by
  rw [sm_fub]
  refine sm_cg n fun a ha => ?_
  rw [show n = a + (n - a) by omega, ← sm_cut (fun b => f a b) a (n - a)]
  refine sm_cg _ fun b _ => ?_
  show (if b < a then f b a else 0) = if b < a then f a b else 0
  rw [hf]
def agn (s K : Nat → Nat) (W a b : Nat) : Nat := if agr s K W a b then 1 else 0
theorem agn_cm (s K : Nat → Nat) (W a b : Nat) : agn s K W a b = agn s K W b a := by
  unfold agn
  by_cases h : agr s K W a b
  · rw [if_pos h, if_pos h.cm]
  · rw [if_neg h, if_neg fun q => h q.cm]
theorem agn_le (s K : Nat → Nat) (W a b : Nat) : agn s K W a b ≤ 1 := by
  unfold agn
  split <;> omega
theorem agn_t {s K : Nat → Nat} {W a b : Nat} (h : agr s K W a b) : agn s K W a b = 1 := if_pos h
theorem agn_f {s K : Nat → Nat} {W a b : Nat} (h : ¬ agr s K W a b) : agn s K W a b = 0 := if_neg h
theorem Cagreeing {c : Nat} {σ : gS} {n W : Nat} {s K : Nat → Nat} (hM : CS c σ n s K W) (hR : Rg n s K W) : f_Cr_agreeing c σ = some (nI (sm (fun a => sm (fun b => if a < b then agn s K W a b else 0) n) n)) := by
  have hn := hR.1
  have e2 := hM.1.1
  unfold f_Cr_agreeing
  simp only [litE]
  refine loopG (fun fu i a => f_Cr_agreeing_L4 c σ fu (nI a) (nI i)) (fun o => o = some (nI (sm (fun a => sm (fun b => if a < b then agn s K W a b else 0) n) n))) (fun i x => x = sm (fun a => sm (fun b => if a < b then agn s K W a b else 0) n) i) n 0 0 (by omega) (by omega) rfl ?_ ?_
  · intro fu i a hi hp
    left
    refine ⟨_, ?_, rfl⟩
    have h1 : ¬ n ≤ i := by omega
    have h0 : sm (fun b => if i < b then agn s K W i b else 0) (i + 1) = 0 := by
      rw [sm_cg (g2 := fun _ => 0) (i + 1) fun j hj => if_neg (by omega)]
      exact sm_zero _
    have inner := loopG (fun g j x => f_Cr_agreeing_L16 c σ (fun v1 v2 => f_Cr_agreeing_L4 c σ fu v1 v2) g (nI x) (nI i) (nI j)) (fun o => o = f_Cr_agreeing_L4 c σ fu (nI (a + sm (fun b => if i < b then agn s K W i b else 0) n)) (nI (i + 1))) (fun j x => i + 1 ≤ j ∧ x = a + sm (fun b => if i < b then agn s K W i b else 0) j) n (i + 1) a (by omega) (by omega) ⟨Nat.le_refl _, by rw [h0]; rfl⟩ ?_ ?_
    · show f_Cr_agreeing_L4 c σ (fu + 1) (nI a) (nI i) = f_Cr_agreeing_L4 c σ fu (nI (sm _ i + sm (fun b => if i < b then agn s K W i b else 0) n)) (nI (i + 1))
      rw [← hp, ← inner]
      simp (disch := omega) only [f_Cr_agreeing_L4, gupE, gltE, gllE, litE, litLE, bindE, ↓reduceIte, gsi_at, gsi_l2, gsl_at, gsl_i1, upd_at, updL_at, Nat.reduceEqDiff, gix_nI, nI_clamp, bI_0, bI_gzb, Bool.true_eq_false, Bool.false_eq_true, e2, nI_leI, h1, nI_add]
    · rintro g j x hj ⟨hij, hx⟩
      left
      have hs := hR.sk hi
      have hs2 := hR.sk (j := j) (by omega)
      have h2 : ¬ n ≤ j := by omega
      have hag := Cagree hM hR hi hj
      refine ⟨x + agn s K W i j, ?_, by omega, ?_⟩
      · by_cases t : agr s K W i j
        · simp (disch := omega) only [f_Cr_agreeing_L16, f_Cr_agreeing_j39, gupE, gltE, gllE, litE, litLE, bindE, ↓reduceIte, gsi_at, gsi_l2, gsl_at, gsl_i1, upd_at, updL_at, Nat.reduceEqDiff, gix_nI, nI_clamp, bI_0, bI_gzb, Bool.true_eq_false, Bool.false_eq_true, e2, nI_leI, h2, hag, decide_eq_true t, nI_add, agn_t t]
        · simp (disch := omega) only [f_Cr_agreeing_L16, f_Cr_agreeing_j39, gupE, gltE, gllE, litE, litLE, bindE, ↓reduceIte, gsi_at, gsi_l2, gsl_at, gsl_i1, upd_at, updL_at, Nat.reduceEqDiff, gix_nI, nI_clamp, bI_0, bI_gzb, Bool.true_eq_false, Bool.false_eq_true, e2, nI_leI, h2, hag, decide_eq_false t, nI_add, agn_f t]
      · show _ = a + (sm _ j + if i < j then agn s K W i j else 0)
        rw [if_pos (by omega), hx]
        omega
    · rintro g x ⟨hij, hx⟩
      subst hx
      have h2 : nI n ≤ nI n := Int32.le_refl _
      simp (disch := omega) only [f_Cr_agreeing_L16, gupE, gltE, gllE, litE, litLE, bindE, ↓reduceIte, gsi_at, gsi_l2, gsl_at, gsl_i1, upd_at, updL_at, Nat.reduceEqDiff, gix_nI, nI_clamp, bI_0, bI_gzb, Bool.true_eq_false, Bool.false_eq_true, e2, h2, nI_add]
  · intro fu a hp
    subst hp
    have h2 : nI n ≤ nI n := Int32.le_refl _
    simp (disch := omega) only [f_Cr_agreeing_L4, gupE, gltE, gllE, litE, litLE, bindE, ↓reduceIte, gsi_at, gsi_l2, gsl_at, gsl_i1, upd_at, updL_at, Nat.reduceEqDiff, gix_nI, nI_clamp, bI_0, bI_gzb, Bool.true_eq_false, Bool.false_eq_true, e2, h2]
theorem Cspeakers {c : Nat} {σ : gS} {n W p q : Nat} {s K : Nat → Nat} (hM : CS c σ n s K W) (hR : Rg n s K W) (hp : p < 100) (hq : q < 100) : f_Cr_speakers c (nI p) (nI q) σ = some (nI (sm (fun j => if p ≤ s j ∧ s j ≤ q then 1 else 0) n)) := by
  have hn := hR.1
  have e2 := hM.1.1
  unfold f_Cr_speakers
  simp only [litE]
  refine loopG (fun fu i a => f_Cr_speakers_L5 c σ fu (nI p) (nI q) (nI a) (nI i)) (fun o => o = some (nI (sm (fun j => if p ≤ s j ∧ s j ≤ q then 1 else 0) n))) (fun i x => x = sm (fun j => if p ≤ s j ∧ s j ≤ q then 1 else 0) i) n 0 0 (by omega) (by omega) rfl ?_ ?_
  · intro fu i a hi hx
    left
    refine ⟨_, ?_, rfl⟩
    have hs := hR.sk hi
    have h1 : ¬ n ≤ i := by omega
    have es := (hM.2 i hi).1
    show f_Cr_speakers_L5 c σ (fu + 1) (nI p) (nI q) (nI a) (nI i) = f_Cr_speakers_L5 c σ fu (nI p) (nI q) (nI (sm _ i + if p ≤ s i ∧ s i ≤ q then 1 else 0)) (nI (i + 1))
    rw [← hx]
    by_cases t1 : s i < p
    · have t2 : ¬ p ≤ s i := by omega
      simp (disch := omega) only [f_Cr_speakers_L5, f_Cr_speakers_j41, f_Cr_speakers_j42, gupE, gltE, gllE, litE, litLE, bindE, ↓reduceIte, gsi_at, gsi_l2, gsl_at, gsl_i1, upd_at, updL_at, Nat.reduceEqDiff, gix_nI, nI_clamp, bI_0, bI_gzb, Bool.true_eq_false, Bool.false_eq_true, e2, nI_leI, nI_ltI, h1, es, t1, t2, false_and, nI_add]
    · have t2 : p ≤ s i := by omega
      by_cases t3 : q < s i
      · have t4 : ¬ s i ≤ q := by omega
        simp (disch := omega) only [f_Cr_speakers_L5, f_Cr_speakers_j41, f_Cr_speakers_j42, gupE, gltE, gllE, litE, litLE, bindE, ↓reduceIte, gsi_at, gsi_l2, gsl_at, gsl_i1, upd_at, updL_at, Nat.reduceEqDiff, gix_nI, nI_clamp, bI_0, bI_gzb, Bool.true_eq_false, Bool.false_eq_true, e2, nI_leI, nI_ltI, h1, es, t1, t2, t3, t4, and_false, nI_add]
      · have t4 : s i ≤ q := by omega
        simp (disch := omega) only [f_Cr_speakers_L5, f_Cr_speakers_j41, f_Cr_speakers_j42, gupE, gltE, gllE, litE, litLE, bindE, ↓reduceIte, gsi_at, gsi_l2, gsl_at, gsl_i1, upd_at, updL_at, Nat.reduceEqDiff, gix_nI, nI_clamp, bI_0, bI_gzb, Bool.true_eq_false, Bool.false_eq_true, e2, nI_leI, nI_ltI, h1, es, t1, t2, t3, t4, and_self, nI_add]
  · intro fu a hx
    subst hx
    have h2 : nI n ≤ nI n := Int32.le_refl _
    simp (disch := omega) only [f_Cr_speakers_L5, gupE, gltE, gllE, litE, litLE, bindE, ↓reduceIte, gsi_at, gsi_l2, gsl_at, gsl_i1, upd_at, updL_at, Nat.reduceEqDiff, gix_nI, nI_clamp, bI_0, bI_gzb, Bool.true_eq_false, Bool.false_eq_true, e2, h2]
/-- whom one meets who comes as the last -/
def Mt (n : Nat) (s K : Nat → Nat) (W v m w : Nat) : Prop := ∃ o, o < n ∧ m.testBit o = true ∧ agr s K W v o ∧ min (s v) (s o) = w
theorem Mt.lt {n : Nat} {s K : Nat → Nat} {W v m : Nat} (h : Rg n s K W) (hv : v < n) : ∀ w, Mt n s K W v m w → w < 6 := by
  rintro w ⟨o, h1, -, -, rfl⟩
  have := h.sk h1
  have := h.sk hv
  omega
theorem CmetBy {c : Nat} {σ : gS} {n W v m : Nat} {s K : Nat → Nat} (hM : CS c σ n s K W) (hR : Rg n s K W) (hv : v < n) (hm : m < 1024) : ∃ h, f_Cr_metBy c (nI v) (nI m) σ = some (nI h) ∧ Bits h (fun w => m.testBit v = false ∧ Mt n s K W v m w) := by
  have hn := hR.1
  have e2 := hM.1.1
  have hsv := hR.sk hv
  unfold f_Cr_metBy
  simp only [litE]
  refine loopG (fun fu i a => f_Cr_metBy_L5 c σ fu (nI v) (nI m) (nI a) (nI i)) (fun o => ∃ h, o = some (nI h) ∧ Bits h (fun w => m.testBit v = false ∧ Mt n s K W v m w)) (fun i x => Bits x (fun w => m.testBit v = false ∧ Mt i s K W v m w)) n 0 0 (by omega) (by omega) (Bits.zero.cg fun w => ⟨False.elim, fun ⟨_, o, h, _⟩ => by omega⟩) ?_ ?_
  · intro fu i a hi hx
    left
    have hs := hR.sk hi
    have h1 : ¬ n ≤ i := by omega
    have hag := Cagree hM hR hv hi
    have es := (hM.2 i hi).1
    have ev := (hM.2 v hv).1
    have wv : inb (nI v) n = true := by
      rw [inb_nI (by omega)]
      exact decide_eq_true hv
    have hno : (¬ (m.testBit i = true ∧ m.testBit v = false ∧ agr s K W v i)) → Bits a (fun w => m.testBit v = false ∧ Mt (i + 1) s K W v m w) := by
      intro q
      refine hx.cg fun w => ⟨fun ⟨q0, o, q1, q2⟩ => ⟨q0, o, by omega, q2⟩, fun ⟨q0, o, q1, q2, q3, q4⟩ => ⟨q0, o, ?_, q2, q3, q4⟩⟩
      by_cases e : o = i
      · subst e
        exact absurd ⟨q2, q0, q3⟩ q
      · omega
    cases ti : m.testBit i with
    | false =>
      refine ⟨a, ?_, hno (by simp [ti])⟩
      simp (disch := omega) only [f_Cr_metBy_L5, gupE, gltE, gllE, litE, litLE, bindE, ↓reduceIte, gsi_at, gsi_l2, gsl_at, gsl_i1, upd_at, updL_at, Nat.reduceEqDiff, gix_nI, nI_clamp, bI_0, bI_gzb, Bool.true_eq_false, Bool.false_eq_true, e2, nI_leI, h1, within_eq, wv, has_eq, ti, nI_add]
    | true =>
      cases tv : m.testBit v with
      | true =>
        refine ⟨a, ?_, (hno (by simp [tv])).cg fun w => by rw [tv]⟩
        simp (disch := omega) only [f_Cr_metBy_L5, gupE, gltE, gllE, litE, litLE, bindE, ↓reduceIte, gsi_at, gsi_l2, gsl_at, gsl_i1, upd_at, updL_at, Nat.reduceEqDiff, gix_nI, nI_clamp, bI_0, bI_gzb, Bool.true_eq_false, Bool.false_eq_true, e2, nI_leI, h1, within_eq, wv, has_eq, ti, tv, nI_add]
      | false =>
        by_cases t : agr s K W v i
        · refine ⟨a ||| 2 ^ (min (s v) (s i)), ?_, ?_⟩
          · simp (disch := omega) only [f_Cr_metBy_L5, gupE, gltE, gllE, litE, litLE, bindE, ↓reduceIte, gsi_at, gsi_l2, gsl_at, gsl_i1, upd_at, updL_at, Nat.reduceEqDiff, gix_nI, nI_clamp, bI_0, bI_gzb, Bool.true_eq_false, Bool.false_eq_true, e2, nI_leI, h1, within_eq, wv, has_eq, ti, tv, hag, decide_eq_true t, es, ev, gmin_nI, sh1, nI_or, nI_add]
          · refine hx.or.cg fun w => ⟨?_, ?_⟩
            · rintro (⟨-, o, q1, q2⟩ | rfl)
              · exact ⟨rfl, o, by omega, q2⟩
              · exact ⟨rfl, i, by omega, ti, t, rfl⟩
            · rintro ⟨-, o, q1, q2, q3, q4⟩
              by_cases q : o = i
              · subst q
                exact Or.inr q4.symm
              · exact Or.inl ⟨tv, o, by omega, q2, q3, q4⟩
        · refine ⟨a, ?_, (hno fun q => t q.2.2).cg fun w => by rw [tv]⟩
          simp (disch := omega) only [f_Cr_metBy_L5, gupE, gltE, gllE, litE, litLE, bindE, ↓reduceIte, gsi_at, gsi_l2, gsl_at, gsl_i1, upd_at, updL_at, Nat.reduceEqDiff, gix_nI, nI_clamp, bI_0, bI_gzb, Bool.true_eq_false, Bool.false_eq_true, e2, nI_leI, h1, within_eq, wv, has_eq, ti, tv, hag, decide_eq_false t, nI_add]
  · intro fu a hx
    refine ⟨a, ?_, hx⟩
    have h2 : nI n ≤ nI n := Int32.le_refl _
    simp (disch := omega) only [f_Cr_metBy_L5, gupE, gltE, gllE, litE, litLE, bindE, ↓reduceIte, gsi_at, gsi_l2, gsl_at, gsl_i1, upd_at, updL_at, Nat.reduceEqDiff, gix_nI, nI_clamp, bI_0, bI_gzb, Bool.true_eq_false, Bool.false_eq_true, e2, h2]
/-- one weather alone, all coming -/
theorem ChappensOn {c : Nat} {σ : gS} {n W w : Nat} {s K : Nat → Nat} (hM : CS c σ n s K W) (hR : Rg n s K W) (hw : w < 6) : ∃ b, f_Cr_happensOn c (nI w) σ = some (bI b) ∧ (b = true ↔ Hp n s K W (fun _ => True) w) := by
  have hn := hR.1
  have hW := hR.2.1
  have e2 := hM.1.1
  have e3 := hM.1.2
  unfold f_Cr_happensOn
  simp only [litE]
  refine loopG (fun fu i (a : Nat × Nat) => f_Cr_happensOn_L7 c σ fu (nI w) (nI a.1) (nI a.2) (nI i)) (fun o => ∃ b, o = some (bI b) ∧ (b = true ↔ Hp n s K W (fun _ => True) w)) (fun i a => (a.1 ≤ i ∧ (0 < a.1 ↔ ∃ k, fam i s K n w k)) ∧ Bits a.2 (fun k => ∃ v, w ≤ v ∧ v ≤ w + W ∧ fam i s K n v k)) n 0 (0, 0) (by omega) (by omega) ⟨⟨Nat.le_refl _, ⟨fun q => absurd q (Nat.lt_irrefl 0), fun ⟨k, j, q, _⟩ => absurd q (Nat.not_lt_zero j)⟩⟩, Bits.zero.cg fun k => ⟨False.elim, fun ⟨v, _, _, j, q, _⟩ => absurd q (Nat.not_lt_zero j)⟩⟩ ?_ ?_
  · rintro fu i ⟨sp, r⟩ hi ⟨⟨hs1, hs2⟩, hr⟩
    left
    simp only at hs1 hs2 hr
    have hs := hR.sk hi
    have h1 : ¬ n ≤ i := by omega
    have es := (hM.2 i hi).1
    have ek := (hM.2 i hi).2
    have famS : ∀ v k, fam (i + 1) s K n v k ↔ fam i s K n v k ∨ (s i = v ∧ K i = k) := by
      intro v k
      constructor
      · rintro ⟨j, q1, q2, q3, q4⟩
        by_cases q : j = i
        · subst q
          exact Or.inr ⟨q3, q4⟩
        · exact Or.inl ⟨j, by omega, q2, q3, q4⟩
      · rintro (⟨j, q1, q2⟩ | ⟨q1, q2⟩)
        · exact ⟨j, by omega, q2⟩
        · exact ⟨i, by omega, by omega, q1, q2⟩
    have hskip : ¬ (w ≤ s i ∧ s i ≤ w + W) → ((sp ≤ i + 1 ∧ (0 < sp ↔ ∃ k, fam (i + 1) s K n w k)) ∧ Bits r (fun k => ∃ v, w ≤ v ∧ v ≤ w + W ∧ fam (i + 1) s K n v k)) := by
      intro q
      refine ⟨⟨by omega, hs2.trans ⟨fun ⟨k, h⟩ => ⟨k, (famS w k).mpr (Or.inl h)⟩, fun ⟨k, h⟩ => ?_⟩⟩, hr.cg fun k => ⟨fun ⟨v, q1, q2, h⟩ => ⟨v, q1, q2, (famS v k).mpr (Or.inl h)⟩, fun ⟨v, q1, q2, h⟩ => ?_⟩⟩
      · rcases (famS w k).mp h with h | h
        · exact ⟨k, h⟩
        · omega
      · rcases (famS v k).mp h with h | h
        · exact ⟨v, q1, q2, h⟩
        · omega
    by_cases t1 : s i < w
    · refine ⟨(sp, r), ?_, hskip (by omega)⟩
      have e4 : nI (s i) - nI w < nI 0 := pk_sneg (by omega) t1
      simp (disch := omega) only [f_Cr_happensOn_L7, gupE, gltE, gllE, litE, litLE, bindE, ↓reduceIte, gsi_at, gsi_l2, gsl_at, gsl_i1, upd_at, updL_at, Nat.reduceEqDiff, gix_nI, nI_clamp, bI_0, bI_gzb, Bool.true_eq_false, Bool.false_eq_true, e2, nI_leI, h1, es, e4, nI_add]
    · by_cases t2 : W < s i - w
      · refine ⟨(sp, r), ?_, hskip (by omega)⟩
        have e4 : ¬ nI (s i - w) < nI 0 := nI_pos (by omega)
        simp (disch := omega) only [f_Cr_happensOn_L7, gupE, gltE, gllE, litE, litLE, bindE, ↓reduceIte, gsi_at, gsi_l2, gsl_at, gsl_i1, upd_at, updL_at, Nat.reduceEqDiff, gix_nI, nI_clamp, bI_0, bI_gzb, Bool.true_eq_false, Bool.false_eq_true, e2, nI_leI, h1, es, pk_sub, e3, nI_ltI, e4, t2, nI_add]
      · have e4 : ¬ nI (s i - w) < nI 0 := nI_pos (by omega)
        refine ⟨(sp + (if s i = w then 1 else 0), r ||| 2 ^ K i), ?_, ⟨⟨?_, ?_⟩, ?_⟩⟩
        · by_cases t3 : s i - w = 0
          · have t4 : s i = w := by omega
            have t5 : w - w = 0 := by omega
            simp (disch := omega) only [f_Cr_happensOn_L7, f_Cr_happensOn_j64, gupE, gltE, gllE, litE, litLE, bindE, ↓reduceIte, gsi_at, gsi_l2, gsl_at, gsl_i1, upd_at, updL_at, Nat.reduceEqDiff, gix_nI, nI_clamp, bI_0, bI_gzb, Bool.true_eq_false, Bool.false_eq_true, e2, nI_leI, h1, es, ek, pk_sub, e3, nI_ltI, nI_eq, t2, t4, t5, Nat.not_lt_zero, sh1, nI_or, nI_add]
          · have t4 : ¬ s i = w := by omega
            simp (disch := omega) only [f_Cr_happensOn_L7, f_Cr_happensOn_j64, gupE, gltE, gllE, litE, litLE, bindE, ↓reduceIte, gsi_at, gsi_l2, gsl_at, gsl_i1, upd_at, updL_at, Nat.reduceEqDiff, gix_nI, nI_clamp, bI_0, bI_gzb, Bool.true_eq_false, Bool.false_eq_true, e2, nI_leI, h1, es, ek, pk_sub, e3, nI_ltI, nI_eq, t2, t3, t4, Nat.not_lt_zero, sh1, nI_or, nI_add, Nat.add_zero]
        · show sp + (if s i = w then 1 else 0) ≤ i + 1
          split <;> omega
        · show 0 < sp + (if s i = w then 1 else 0) ↔ _
          constructor
          · intro q
            by_cases t3 : s i = w
            · exact ⟨K i, (famS w _).mpr (Or.inr ⟨t3, rfl⟩)⟩
            · rw [if_neg t3] at q
              obtain ⟨k, h⟩ := hs2.mp (by omega)
              exact ⟨k, (famS w k).mpr (Or.inl h)⟩
          · rintro ⟨k, h⟩
            rcases (famS w k).mp h with h | h
            · have := hs2.mpr ⟨k, h⟩
              omega
            · rw [if_pos h.1]
              omega
        · refine hr.or.cg fun k => ⟨?_, ?_⟩
          · rintro (⟨v, q1, q2, h⟩ | rfl)
            · exact ⟨v, q1, q2, (famS v k).mpr (Or.inl h)⟩
            · exact ⟨s i, by omega, by omega, (famS _ _).mpr (Or.inr ⟨rfl, rfl⟩)⟩
          · rintro ⟨v, q1, q2, h⟩
            rcases (famS v k).mp h with h | h
            · exact Or.inl ⟨v, q1, q2, h⟩
            · exact Or.inr h.2.symm
  · rintro fu ⟨sp, r⟩ ⟨⟨hs1, hs2⟩, hr⟩
    simp only at hs1 hs2 hr
    have h2 : nI n ≤ nI n := Int32.le_refl _
    obtain ⟨fw, hfw0⟩ := Bits.ex (fam n s K n w) 8
    have hfw : Bits fw (fam n s K n w) := hfw0.cg fun k => ⟨fun q => q.2, fun q => ⟨fam.lt hR k q, q⟩⟩
    have hiff := two_fam hR hfw hr
    have hr2 : r < 256 := hr.lt (k := 8) fun k ⟨v, _, _, h⟩ => fam.lt hR k h
    have hcg := Hp.cg (n := n) (s := s) (K := K) (W := W) (T := fun j => j ≠ n) (T2 := fun _ => True) (fun j hj => ⟨fun _ => trivial, fun _ => by omega⟩) w
    have hc := cnt_le r 13
    have hz : fw ≠ 0 ↔ 0 < sp := ⟨fun q => hs2.mpr (Classical.byContradiction fun z => q (hfw.nul fun k hk => z ⟨k, hk⟩)), fun q => (hs2.mp q).elim fun k h => hfw.pos h⟩
    by_cases q : sp = 0
    · refine ⟨false, ?_, ?_⟩
      · subst q
        have h3 : nI 0 ≤ nI 0 := Int32.le_refl _
        simp (disch := omega) only [f_Cr_happensOn_L7, gupE, gltE, gllE, litE, litLE, bindE, ↓reduceIte, gsi_at, gsi_l2, gsl_at, gsl_i1, upd_at, updL_at, Nat.reduceEqDiff, gix_nI, nI_clamp, bI_0, bI_gzb, Bool.true_eq_false, Bool.false_eq_true, e2, h2, h3]
        rfl
      · rw [← hcg, ← hiff, hz]
        simp
        omega
    · have q1 : ¬ sp ≤ 0 := by omega
      by_cases q2 : cnt r 13 < 2
      · refine ⟨false, ?_, ?_⟩
        · simp (disch := omega) only [f_Cr_happensOn_L7, gupE, gltE, gllE, litE, litLE, bindE, ↓reduceIte, gsi_at, gsi_l2, gsl_at, gsl_i1, upd_at, updL_at, Nat.reduceEqDiff, gix_nI, nI_clamp, bI_0, bI_gzb, Bool.true_eq_false, Bool.false_eq_true, e2, h2, nI_leI, q1, bc, nI_ltI, q2]
          rfl
        · rw [← hcg, ← hiff, hz]
          simp
          omega
      · refine ⟨true, ?_, ?_⟩
        · simp (disch := omega) only [f_Cr_happensOn_L7, gupE, gltE, gllE, litE, litLE, bindE, ↓reduceIte, gsi_at, gsi_l2, gsl_at, gsl_i1, upd_at, updL_at, Nat.reduceEqDiff, gix_nI, nI_clamp, bI_0, bI_gzb, Bool.true_eq_false, Bool.false_eq_true, e2, h2, nI_leI, q1, bc, nI_ltI, q2]
          rfl
        · rw [← hcg, ← hiff, hz]
          simp
          omega
