/-! pure: what has happened, in the class -/
theorem MbitsOf {m : Nat} (hm : m < 2147483648) : f_M_bitsOf (nI m) = some (nI (cnt m 10)) := by
  unfold f_M_bitsOf
  simp only [litE]
  refine loopG (fun fu i a => f_M_bitsOf_L4 fu (nI m) (nI a) (nI i)) (fun o => o = some (nI (cnt m 10))) (fun i a => a = cnt m i) 10 0 0 (by omega) (by omega) rfl ?_ ?_
  · intro fu i a hi hp
    left
    refine ⟨cnt m (i + 1), ?_, rfl⟩
    have h1 : ¬ 10 ≤ i := by omega
    subst hp
    simp (disch := omega) only [f_M_bitsOf_L4, gupE, gltE, gllE, litE, litLE, bindE, ↓reduceIte, gsi_at, gsi_l2, gsl_at, gsl_i1, upd_at, updL_at, Nat.reduceEqDiff, gix_nI, nI_clamp, bI_0, bI_gzb, Bool.true_eq_false, Bool.false_eq_true, nI_leI, h1, sshN, and1, tb_mod, nI_add, cnt]
  · intro fu a hp
    subst hp
    have h1 : nI 10 ≤ nI 10 := Int32.le_refl _
    simp (disch := omega) only [f_M_bitsOf_L4, gupE, gltE, gllE, litE, litLE, bindE, ↓reduceIte, gsi_at, gsi_l2, gsl_at, gsl_i1, upd_at, updL_at, Nat.reduceEqDiff, gix_nI, nI_clamp, bI_0, bI_gzb, Bool.true_eq_false, Bool.false_eq_true, h1]
theorem Hp.cg {n : Nat} {s K : Nat → Nat} {W : Nat} {T T2 : Nat → Prop} (h : ∀ j, j < n → (T j ↔ T2 j)) (w : Nat) : Hp n s K W T w ↔ Hp n s K W T2 w := by
  constructor
  · rintro ⟨a, b, h1, h2, h3, h4, h5⟩
    exact ⟨a, b, h1, h2, (h a h2).mp h3, (h b (by omega)).mp h4, h5⟩
  · rintro ⟨a, b, h1, h2, h3, h4, h5⟩
    exact ⟨a, b, h1, h2, (h a h2).mpr h3, (h b (by omega)).mpr h4, h5⟩
/-- the kins of those who say w, without x -/
def fam (n : Nat) (s K : Nat → Nat) (x w k : Nat) : Prop := ∃ j, j < n ∧ j ≠ x ∧ s j = w ∧ K j = k
theorem fam.lt {n : Nat} {s K : Nat → Nat} {W x w : Nat} (h : Rg n s K W) : ∀ k, fam n s K x w k → k < 8 := by
  rintro k ⟨j, h1, -, -, rfl⟩
  exact (h.sk h1).2.1
theorem Hp.mk {n : Nat} {s K : Nat → Nat} {W : Nat} {T : Nat → Prop} {a b : Nat} (ha : a < n) (hb : b < n) (ta : T a) (tb : T b) (h : agr s K W a b) : Hp n s K W T (min (s a) (s b)) := by
  rcases Nat.lt_or_ge a b with q | q
  · exact ⟨b, a, q, hb, tb, ta, h.cm, Nat.min_comm _ _⟩
  · have : a ≠ b := fun e => h.1 (by rw [e])
    exact ⟨a, b, by omega, ha, ta, tb, h, rfl⟩
theorem two_fam {n : Nat} {s K : Nat → Nat} {W x w : Nat} (hR : Rg n s K W) {fw r : Nat} (h1 : Bits fw (fam n s K x w)) (h2 : Bits r (fun k => ∃ v, w ≤ v ∧ v ≤ w + W ∧ fam n s K x v k)) : (fw ≠ 0 ∧ 2 ≤ cnt r 13) ↔ Hp n s K W (fun j => j ≠ x) w := by
  have hr : r < 256 := h2.lt (k := 8) fun k ⟨v, _, _, h⟩ => fam.lt hR k h
  rw [cnt8 hr]
  constructor
  · rintro ⟨q1, q2⟩
    obtain ⟨k0, hk0⟩ : ∃ k, fam n s K x w k := Classical.byContradiction fun q => q1 (h1.nul fun k hk => q ⟨k, hk⟩)
    obtain ⟨i, -, j, -, ti, tj, hij⟩ := cnt_many r hr q2
    obtain ⟨a, ha, hax, hsa, hka⟩ := hk0
    obtain ⟨k, hk, tk⟩ : ∃ k, k ≠ k0 ∧ r.testBit k = true := by
      by_cases e : i = k0
      · exact ⟨j, by omega, tj⟩
      · exact ⟨i, e, ti⟩
    obtain ⟨v, hv1, hv2, b, hb, hbx, hsb, hkb⟩ := (h2 k).mp tk
    have := Hp.mk (s := s) (K := K) (T := fun j => j ≠ x) (W := W) ha hb hax hbx ⟨by omega, by omega, by omega⟩
    rw [show min (s a) (s b) = w by omega] at this
    exact this
  · rintro ⟨a, b, hba, han, hax, hbx, hag, hmin⟩
    have main : ∀ a b, a < n → b < n → a ≠ x → b ≠ x → agr s K W a b → s a = w → s a ≤ s b → fw ≠ 0 ∧ 2 ≤ cnt r 8 := by
      intro a b ha hb hax hbx hag hw hle
      refine ⟨h1.pos ⟨a, ha, hax, hw, rfl⟩, ?_⟩
      have ta := (h2 (K a)).mpr ⟨w, by omega, by omega, a, ha, hax, hw, rfl⟩
      have tb := (h2 (K b)).mpr ⟨s b, by omega, by have := hag.2; omega, b, hb, hbx, rfl, rfl⟩
      refine Nat.le_of_not_lt fun q => hag.1 (cnt_one r hr q (K a) (hR.sk ha).2.1 (K b) (hR.sk hb).2.1 ta tb)
    rcases Nat.le_total (s a) (s b) with q | q
    · exact main a b han (by omega) hax hbx hag (by omega) q
    · exact main b a (by omega) han hbx hax hag.cm (by omega) q
theorem Csaid2 {c : Nat} {τ : gS} {n W x w : Nat} {s K : Nat → Nat} (hR : Rg n s K W) (hw : w < 6) (h3 : τ.1 c 3 = nI W)
    (hf : ∀ v, v < 6 → ∃ h, τ.1 (c + 3) v = nI h ∧ Bits h (fam n s K x v)) : ∃ b, f_Cr_isSaidByTwo c (nI w) τ = some (bI b) ∧ (b = true ↔ Hp n s K W (fun j => j ≠ x) w) := by
  have hW := hR.2.1
  unfold f_Cr_isSaidByTwo
  simp only [litE]
  have hj : ∀ r, Bits r (fun k => ∃ v, w ≤ v ∧ v ≤ w + W ∧ fam n s K x v k) → ∃ b, f_Cr_isSaidByTwo_j35 c τ (nI w) (nI r) = some (bI b) ∧ (b = true ↔ Hp n s K W (fun j => j ≠ x) w) := by
    intro r hr
    obtain ⟨fw, e, hb⟩ := hf w hw
    have hiff := two_fam hR hb hr
    have hfw : fw < 256 := hb.lt (k := 8) (fam.lt hR)
    have hr2 : r < 256 := hr.lt (k := 8) fun k ⟨v, _, _, h⟩ => fam.lt hR k h
    have hc := cnt_le r 13
    unfold f_Cr_isSaidByTwo_j35
    simp (disch := omega) only [gupE, gltE, gllE, litE, litLE, bindE, ↓reduceIte, gsi_at, gsi_l2, gsl_at, gsl_i1, upd_at, updL_at, Nat.reduceEqDiff, gix_nI, nI_clamp, bI_0, bI_gzb, Bool.true_eq_false, Bool.false_eq_true, e, nI_eq, bc, nI_ltI]
    by_cases q : fw = 0
    · refine ⟨false, by simp only [q, ↓reduceIte]; rfl, ?_⟩
      rw [← hiff]
      simp [q]
    · by_cases q2 : cnt r 13 < 2
      · refine ⟨false, by simp only [q, q2, ↓reduceIte]; rfl, ?_⟩
        rw [← hiff]
        simp
        omega
      · refine ⟨true, by simp only [q, q2, ↓reduceIte]; rfl, ?_⟩
        rw [← hiff]
        simp
        omega
  refine loopG (fun fu i a => f_Cr_isSaidByTwo_L4 c τ fu (nI w) (nI a) (nI i)) (fun o => ∃ b, o = some (bI b) ∧ (b = true ↔ Hp n s K W (fun j => j ≠ x) w)) (fun i a => w ≤ i ∧ Bits a (fun k => ∃ v, w ≤ v ∧ v < i ∧ fam n s K x v k)) (min (w + W + 1) 6) w 0 (by omega) (by omega) ⟨Nat.le_refl _, Bits.zero.cg fun k => ⟨False.elim, fun ⟨v, h1, h2, _⟩ => by omega⟩⟩ ?_ ?_
  · rintro fu i a hi ⟨hwi, hp⟩
    left
    obtain ⟨h, e, hb⟩ := hf i (by omega)
    refine ⟨a ||| h, ?_, by omega, (hp.or2 hb).cg fun k => ⟨?_, ?_⟩⟩
    · have h1 : ¬ w + W < i := by omega
      have h2 : ¬ 6 ≤ i := by omega
      simp (disch := omega) only [f_Cr_isSaidByTwo_L4, gupE, gltE, gllE, litE, litLE, bindE, ↓reduceIte, gsi_at, gsi_l2, gsl_at, gsl_i1, upd_at, updL_at, Nat.reduceEqDiff, gix_nI, nI_clamp, bI_0, bI_gzb, Bool.true_eq_false, Bool.false_eq_true, h3, nI_add, nI_ltI, nI_leI, h1, h2, e, nI_or]
    · rintro (⟨v, q1, q2, q3⟩ | q)
      · exact ⟨v, q1, by omega, q3⟩
      · exact ⟨i, hwi, by omega, q⟩
    · rintro ⟨v, q1, q2, q3⟩
      by_cases q : v = i
      · subst q
        exact Or.inr q3
      · exact Or.inl ⟨v, q1, by omega, q3⟩
  · rintro fu a ⟨-, hp⟩
    have hp2 : Bits a (fun k => ∃ v, w ≤ v ∧ v ≤ w + W ∧ fam n s K x v k) := hp.cg fun k => ⟨fun ⟨v, q1, q2, q3⟩ => ⟨v, q1, by omega, q3⟩, fun ⟨v, q1, q2, q3⟩ => by
      obtain ⟨j, j1, j2, j3, j4⟩ := q3
      have := hR.sk j1
      exact ⟨v, q1, by omega, j, j1, j2, j3, j4⟩⟩
    obtain ⟨b, e, hb⟩ := hj a hp2
    refine ⟨b, ?_, hb⟩
    rw [← e]
    by_cases q : w + W < min (w + W + 1) 6
    · simp (disch := omega) only [f_Cr_isSaidByTwo_L4, gupE, gltE, gllE, litE, litLE, bindE, ↓reduceIte, gsi_at, gsi_l2, gsl_at, gsl_i1, upd_at, updL_at, Nat.reduceEqDiff, gix_nI, nI_clamp, bI_0, bI_gzb, Bool.true_eq_false, Bool.false_eq_true, h3, nI_add, nI_ltI, q]
    · have q2 : 6 ≤ min (w + W + 1) 6 := by omega
      simp (disch := omega) only [f_Cr_isSaidByTwo_L4, gupE, gltE, gllE, litE, litLE, bindE, ↓reduceIte, gsi_at, gsi_l2, gsl_at, gsl_i1, upd_at, updL_at, Nat.reduceEqDiff, gix_nI, nI_clamp, bI_0, bI_gzb, Bool.true_eq_false, Bool.false_eq_true, h3, nI_add, nI_ltI, nI_leI, q, q2]
theorem Chappened {c : Nat} {σ : gS} {n W x : Nat} {s K : Nat → Nat} (hM : CS c σ n s K W) (hR : Rg n s K W) (hx : x < 2147483648) : ∃ h τ, f_Cr_happened c (nI x) σ = some (nI h, τ) ∧ Bits h (Hp n s K W (fun j => j ≠ x)) ∧ Fr (only (c + 3)) σ τ := by
  have hn := hR.1
  unfold f_Cr_happened f_JA_fill
  simp only [litE, bindE]
  have hF0 : Fr (only (c + 3)) σ (gsi σ (c + 3) (fun i => if i < 6 then nI 0 else σ.1 (c + 3) i)) := (Fr.rf _ σ).si (fun k => by simp [only])
  refine loopG (fun fu i a => f_Cr_happened_L10 c fu (nI x) (nI i) a) (fun o => ∃ h τ, o = some (nI h, τ) ∧ Bits h (Hp n s K W (fun j => j ≠ x)) ∧ Fr (only (c + 3)) σ τ) (fun i τ => Fr (only (c + 3)) σ τ ∧ ∀ w, w < 6 → ∃ h, τ.1 (c + 3) w = nI h ∧ Bits h (fam i s K x w)) n 0 (gsi σ (c + 3) (fun i => if i < 6 then nI 0 else σ.1 (c + 3) i)) (by omega) (by omega) ⟨hF0, fun w hw => ⟨0, ?_, Bits.zero.cg fun k => ⟨False.elim, fun ⟨j, h, _⟩ => by omega⟩⟩⟩ ?_ ?_
  · rw [gsi_at, if_pos rfl, if_pos hw]
  · rintro fu i τ hi ⟨hF, hp⟩
    left
    have hs := hR.sk hi
    have u2 : τ.1 c 2 = nI n := (only_ne hF (by omega) 2).trans hM.1.1
    have us : τ.1 (c + 1) i = nI (s i) := (only_ne hF (by omega) i).trans (hM.2 i hi).1
    have uk : τ.1 (c + 2) i = nI (K i) := (only_ne hF (by omega) i).trans (hM.2 i hi).2
    have h1 : ¬ n ≤ i := by omega
    by_cases e : i = x
    · subst e
      refine ⟨τ, ?_, hF, fun w hw => ?_⟩
      · simp (disch := omega) only [f_Cr_happened_L10, gupE, gltE, gllE, litE, litLE, bindE, ↓reduceIte, gsi_at, gsi_l2, gsl_at, gsl_i1, upd_at, updL_at, Nat.reduceEqDiff, gix_nI, nI_clamp, bI_0, bI_gzb, Bool.true_eq_false, Bool.false_eq_true, u2, nI_leI, h1, nI_add]
      · obtain ⟨h, e1, e2⟩ := hp w hw
        refine ⟨h, e1, e2.cg fun k => ⟨fun ⟨j, q1, q2⟩ => ⟨j, by omega, q2⟩, fun ⟨j, q1, q2, q3⟩ => ⟨j, by omega, q2, q3⟩⟩⟩
    · obtain ⟨h0, e1, e2⟩ := hp (s i) (by omega)
      have w6 : inb (nI (s i)) 6 = true := by
        rw [inb_nI (by omega)]
        exact decide_eq_true hs.1
      refine ⟨gpi τ (c + 3) (s i) (nI (h0 ||| 2 ^ K i)), ?_, hF.pi (by simp [only]), fun w hw => ?_⟩
      · simp (disch := omega) only [f_Cr_happened_L10, gupE, gltE, gllE, litE, litLE, bindE, ↓reduceIte, gsi_at, gsi_l2, gsl_at, gsl_i1, upd_at, updL_at, Nat.reduceEqDiff, gix_nI, nI_clamp, bI_0, bI_gzb, Bool.true_eq_false, Bool.false_eq_true, u2, nI_leI, h1, nI_eq, e, nI_add, us, uk, within_eq, w6, e1, sh1, nI_or]
      · rw [gpi_at]
        by_cases q : w = s i
        · subst q
          refine ⟨_, if_pos ⟨rfl, rfl⟩, e2.or.cg fun k => ⟨?_, ?_⟩⟩
          · rintro (⟨j, q1, q2⟩ | rfl)
            · exact ⟨j, by omega, q2⟩
            · exact ⟨i, by omega, e, rfl, rfl⟩
          · rintro ⟨j, q1, q2, q3, q4⟩
            by_cases qj : j = i
            · subst qj
              exact Or.inr q4.symm
            · exact Or.inl ⟨j, by omega, q2, q3, q4⟩
        · obtain ⟨h, e3, e4⟩ := hp w hw
          refine ⟨h, (if_neg fun z => q z.2).trans e3, e4.cg fun k => ⟨fun ⟨j, q1, q2⟩ => ⟨j, by omega, q2⟩, fun ⟨j, q1, q2, q3, q4⟩ => ⟨j, ?_, q2, q3, q4⟩⟩⟩
          by_cases qj : j = i
          · subst qj
            exact absurd q3.symm q
          · omega
  · rintro fu τ ⟨hF, hp⟩
    have u2 : τ.1 c 2 = nI n := (only_ne hF (by omega) 2).trans hM.1.1
    have u3 : τ.1 c 3 = nI W := (only_ne hF (by omega) 3).trans hM.1.2
    have h1 : nI n ≤ nI n := Int32.le_refl _
    have step2 := loopG (fun fu i a => f_Cr_happened_L69 c fu (nI a) (nI i) τ) (fun o => ∃ h τ, o = some (nI h, τ) ∧ Bits h (Hp n s K W (fun j => j ≠ x)) ∧ Fr (only (c + 3)) σ τ) (fun i a => Bits a (fun w => w < i ∧ Hp n s K W (fun j => j ≠ x) w)) 6 0 0 (by omega) (by omega) (Bits.zero.cg fun w => ⟨False.elim, fun q => by omega⟩) ?_ ?_
    · obtain ⟨h, υ, e, hh⟩ := step2
      refine ⟨h, υ, ?_, hh⟩
      rw [← e]
      simp (disch := omega) only [f_Cr_happened_L10, gupE, gltE, gllE, litE, litLE, bindE, ↓reduceIte, gsi_at, gsi_l2, gsl_at, gsl_i1, upd_at, updL_at, Nat.reduceEqDiff, gix_nI, nI_clamp, bI_0, bI_gzb, Bool.true_eq_false, Bool.false_eq_true, u2, h1]
    · intro g i a hi hq
      left
      obtain ⟨b, e, hb⟩ := Csaid2 hR (show i < 6 by omega) u3 hp
      have h6 : ¬ 6 ≤ i := by omega
      cases b with
      | false =>
        refine ⟨a, ?_, hq.cg fun w => ⟨fun q => ⟨by omega, q.2⟩, fun q => ⟨?_, q.2⟩⟩⟩
        · simp (disch := omega) only [f_Cr_happened_L69, f_Cr_happened_j91, gupE, gltE, gllE, litE, litLE, bindE, ↓reduceIte, gsi_at, gsi_l2, gsl_at, gsl_i1, upd_at, updL_at, Nat.reduceEqDiff, gix_nI, nI_clamp, bI_0, bI_gzb, Bool.true_eq_false, Bool.false_eq_true, nI_leI, h6, e, nI_or, Nat.or_zero, nI_add]
        · by_cases qw : w = i
          · subst qw
            exact absurd (hb.mpr q.2) (by decide)
          · omega
      | true =>
        refine ⟨a ||| 2 ^ i, ?_, hq.or.cg fun w => ⟨?_, ?_⟩⟩
        · simp (disch := omega) only [f_Cr_happened_L69, f_Cr_happened_j91, gupE, gltE, gllE, litE, litLE, bindE, ↓reduceIte, gsi_at, gsi_l2, gsl_at, gsl_i1, upd_at, updL_at, Nat.reduceEqDiff, gix_nI, nI_clamp, bI_0, bI_gzb, Bool.true_eq_false, Bool.false_eq_true, nI_leI, h6, e, nI_or, sh1, nI_add]
        · rintro (q | rfl)
          · exact ⟨by omega, q.2⟩
          · exact ⟨by omega, hb.mp rfl⟩
        · rintro ⟨q1, q2⟩
          by_cases qw : w = i
          · exact Or.inr qw
          · exact Or.inl ⟨by omega, q2⟩
    · intro g a hq
      refine ⟨a, τ, ?_, hq.cg fun w => ⟨fun q => q.2, fun q => ⟨Hp.lt hR w q, q⟩⟩, hF⟩
      have h6 : nI 6 ≤ nI 6 := Int32.le_refl _
      simp (disch := omega) only [f_Cr_happened_L69, gupE, gltE, gllE, litE, litLE, bindE, ↓reduceIte, gsi_at, gsi_l2, gsl_at, gsl_i1, upd_at, updL_at, Nat.reduceEqDiff, gix_nI, nI_clamp, bI_0, bI_gzb, Bool.true_eq_false, Bool.false_eq_true, h6]
