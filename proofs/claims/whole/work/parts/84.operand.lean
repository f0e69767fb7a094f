/-! pure: an operand of the law's text -/
theorem Orefuse {len i m o : Nat} {u : Bool} {T : Nat → Nat} {σ : gS} {C : gS → Option gS} {X : gS → Option (Int32 × gS)} (hl : len ≤ 120) (hP : CP len T σ i m u) (hC : C σ = f_Pa_refuse σ) (hX : ∀ υ, MT len T υ i o → X υ = f_M_wrong υ) :
    ∃ τ k, C σ = some τ ∧ CF len T τ k ∧ Fr cP σ τ ∧ GoF len T X i k o := by
  obtain ⟨a1, a2⟩ := Crefuse hl hP
  refine ⟨gpi σ 27 6 (nI i), i, hC.trans a1, a2, (Fr.rf cP σ).pi rfl, fun υ hM => ?_⟩
  obtain ⟨b1, b2⟩ := Mwrong hM
  exact ⟨nI 0, gpi υ 59 14 (nI i), (hX υ hM).trans b1, b2, (Fr.rf cM υ).pi rfl⟩
theorem C186 {kR : Int32 → Int32 → gS → Option gS} {kO : Int32 → gS → Option gS} (σ : gS) : f_Pa_readOperand_j186 kR kO σ = f_Pa_refuse σ := by
  unfold f_Pa_readOperand_j186
  cases f_Pa_refuse σ <;> rfl
theorem Mone0 {len i o : Nat} {T : Nat → Nat} {υ : gS} {kone : gS → Option (Int32 × gS)} (hl : len ≤ 120) (hT : ∀ j, j < len → T j < 256) (hM : MT len T υ i o) : fo_M_one kone υ = if bt len T i = 33 ∨ bt len T i = 45 ∨ bt len T i = 40 then f_M_one_j32 kone (nI (bt len T i)) υ else if nmI (bt len T i) < nI 0 then f_M_one_L176 kone gfu (nI 0) (nI 0) υ else gup (gpi υ 59 12 (nI (i + 1))) fun s33 => if gix (nmI (bt len T i)) 6 then some ((s33.1 66 (nmI (bt len T i)).toNatClampNeg), s33) else none := by
  have hb := bt_lt (i := i) hT
  unfold fo_M_one
  simp only [litE]
  rw [if_pos (show υ.1 59 14 < nI 0 by rw [hM.2.2.1]; decide), MbyteN hl hM, bindE, nameOf_eq hb, bindE, hM.2.1.2, nI_add]
  by_cases q1 : bt len T i = 33
  · rw [if_pos (Or.inl q1), q1, if_pos rfl]
  · rw [if_neg (nIne (by omega) (by decide) q1)]
    by_cases q2 : bt len T i = 45
    · rw [if_pos (Or.inr (Or.inl q2)), q2, if_pos rfl]
    · rw [if_neg (nIne (by omega) (by decide) q2)]
      by_cases q3 : bt len T i = 40
      · rw [if_pos (Or.inr (Or.inr q3)), q3, if_pos rfl]
      · rw [if_neg (nIne (by omega) (by decide) q3), if_neg (show ¬ (bt len T i = 33 ∨ bt len T i = 45 ∨ bt len T i = 40) by omega)]
theorem MT.inn {len i o : Nat} {T : Nat → Nat} {υ : gS} (h : MT len T υ i o) (hi : i < len) : MT len T (gpi (gpi υ 59 15 (nI (o + 1))) 59 12 (nI (i + 1))) (i + 1) (o + 1) := ⟨h.1.fr (((Fr.rf cM υ).pi rfl).pi rfl), ⟨hi, rfl⟩, h.2.2.1, rfl⟩
theorem Mj32 {len i o b : Nat} {T : Nat → Nat} {υ : gS} {kone : gS → Option (Int32 × gS)} (hM : MT len T υ i o) (ho : o < 6) (hb : b < 256) : f_M_one_j32 kone (nI b) υ = if b = 40 then (fo_M_either kone (gpi (gpi υ 59 15 (nI (o + 1))) 59 12 (nI (i + 1)))).bind fun q9 => f_M_one_j83 kone (nI b) q9.1 q9.2 else (kone (gpi (gpi υ 59 15 (nI (o + 1))) 59 12 (nI (i + 1)))).bind fun q18 => f_M_one_j83 kone (nI b) q18.1 q18.2 := by
  unfold f_M_one_j32
  simp only [litE]
  have e : (gpi υ 59 15 (nI (o + 1))).1 59 12 = nI i := hM.2.1.2
  rw [hM.2.2.2, if_neg (nIne (a := o) (b := 6) (by omega) (by decide) (by omega)), gupE, nI_add, e, gupE, nI_add]
  by_cases q : b = 40
  · rw [if_pos q, if_pos (show nI b = nI 40 by rw [q])]
  · rw [if_neg q, if_neg (nIne (by omega) (by decide) q)]
theorem Mj104 {o : Nat} {υ : gS} {kone : gS → Option (Int32 × gS)} {b v : Int32} (h : υ.1 59 15 = nI (o + 1)) : f_M_one_j104 kone b v υ = if b = nI 40 then some (v, gpi υ 59 15 (nI o)) else if b = nI 45 then some (-v, gpi υ 59 15 (nI o)) else if v = nI 0 then some (nI 1, gpi υ 59 15 (nI o)) else some (nI 0, gpi υ 59 15 (nI o)) := by
  unfold f_M_one_j104
  simp only [litE]
  rw [h, pk_sub (by omega), Nat.add_sub_cancel, gupE]
theorem Mj104F {len k : Nat} {T : Nat → Nat} {υ : gS} {kone : gS → Option (Int32 × gS)} {b v : Int32} (h : MF len T υ k) : ∃ x υ', f_M_one_j104 kone b v υ = some (x, υ') ∧ MF len T υ' k ∧ Fr cM υ υ' := by
  have hF : MF len T (gpi υ 59 15 (υ.1 59 15 - nI 1)) k := h.fr ((Fr.rf _ υ).pi rfl)
  have hFr : Fr cM υ (gpi υ 59 15 (υ.1 59 15 - nI 1)) := (Fr.rf cM υ).pi rfl
  unfold f_M_one_j104
  simp only [litE]
  rw [gupE]
  split
  · exact ⟨_, _, rfl, hF, hFr⟩
  · split
    · exact ⟨_, _, rfl, hF, hFr⟩
    · split
      · exact ⟨_, _, rfl, hF, hFr⟩
      · exact ⟨_, _, rfl, hF, hFr⟩
theorem Mj83n {kone : gS → Option (Int32 × gS)} {b : Nat} {v : Int32} {υ : gS} (hb : b < 256) (h : b ≠ 40) : f_M_one_j83 kone (nI b) v υ = f_M_one_j104 kone (nI b) v υ := by
  unfold f_M_one_j83
  simp only [litE]
  rw [if_neg (nIne (by omega) (by decide) h)]
theorem Oper {len o : Nat} {T : Nat → Nat} {kR : Int32 → Int32 → gS → Option gS} {kO : Int32 → gS → Option gS} {kone : gS → Option (Int32 × gS)} (hl : len ≤ 120) (hT : ∀ j, j < len → T j < 256) (ho : o ≤ 6) (hO : o < 6 → Ag len T (fun σ => kO (nI (o + 1)) σ) kone (o + 1)) (hR : o < 6 → Ag len T (fun σ => kR (nI 0) (nI (o + 1)) σ) (fo_M_either kone) (o + 1)) : Ag len T (fun σ => fo_Pa_readOperand kR kO (nI o) σ) (fo_M_one kone) o := by
  intro σ i m u hP
  have hi := hP.2.1.1
  have hmi := hP.2.2.1.1
  have h6 : o < 6 → ¬ nI 6 ≤ nI o := fun q => nI_ge q (by decide)
  have h6' : ¬ o < 6 → nI 6 ≤ nI o := fun q => nI_le (by omega) (by omega)
  -- the class's first look
  have hstart : ∀ b x, (i < len → nI (T i) = b ∧ nmI (T i) = x) → (¬ i < len → b = -nI 1 ∧ x = -nI 1) → fo_Pa_readOperand kR kO (nI o) σ = (f_Pa_isDigit b).bind fun q5 => if q5 = nI 0 then if x < nI 0 then if (nI 6) ≤ nI o then f_Pa_readOperand_j140 kR kO (nI o) b σ else if b = (nI 33) then f_Pa_readOperand_j104 kR kO (nI o) b σ else if b = (nI 45) then f_Pa_readOperand_j104 kR kO (nI o) b σ else f_Pa_readOperand_j140 kR kO (nI o) b σ else gup (gpi σ 27 5 (nI (i + 1))) fun s23 => (f_Pa_emit (nI 2) x s23).bind fun s24 => if x = (nI 4) then f_Pa_readOperand_j79 kR kO (nI 1) (s24.1 27 7) s24 else f_Pa_readOperand_j79 kR kO (nI 0) (s24.1 27 7) s24 else (f_Pa_readNumber σ).bind fun s28 => some s28 := by
    intro b x h1 h2
    unfold fo_Pa_readOperand
    simp only [litE]
    rw [Cnext hl hP.1 hP.2.1.1 hP.2.1.2, bindE]
    have h20 : f_Pa_readOperand_j20 kR kO (nI o) b x σ = (f_Pa_isDigit b).bind fun q5 => if q5 = nI 0 then if x < nI 0 then if (nI 6) ≤ nI o then f_Pa_readOperand_j140 kR kO (nI o) b σ else if b = (nI 33) then f_Pa_readOperand_j104 kR kO (nI o) b σ else if b = (nI 45) then f_Pa_readOperand_j104 kR kO (nI o) b σ else f_Pa_readOperand_j140 kR kO (nI o) b σ else gup (gpi σ 27 5 (nI (i + 1))) fun s23 => (f_Pa_emit (nI 2) x s23).bind fun s24 => if x = (nI 4) then f_Pa_readOperand_j79 kR kO (nI 1) (s24.1 27 7) s24 else f_Pa_readOperand_j79 kR kO (nI 0) (s24.1 27 7) s24 else (f_Pa_readNumber σ).bind fun s28 => some s28 := by
      unfold f_Pa_readOperand_j20
      simp only [litE]
      rw [hP.2.2.2.1, if_pos rfl, hP.2.1.2, nI_add]
    by_cases q : i < len
    · have hc := hT i q
      obtain ⟨e1, e2⟩ := h1 q
      rw [if_pos q, if_pos (m1_lt (by omega)), chr_eq hc, indexOf_eq hc, bindE, e1, e2, h20]
    · obtain ⟨e1, e2⟩ := h2 q
      rw [if_neg q, if_neg (show ¬ nI 0 ≤ -nI 1 by decide)]
      rw [e1, e2] at h20 ⊢
      exact h20
  have neg0 : -nI 1 < nI 0 := by decide
  by_cases q : i < len
  · have hc := hT i q
    have hbt : bt len T i = T i := by
      unfold bt
      rw [if_pos q]
    have hst := hstart (nI (T i)) (nmI (T i)) (fun _ => ⟨rfl, rfl⟩) (fun z => absurd q z)
    have hP1 := hP.adv (j := i + 1) (by omega) q
    by_cases dg : 48 ≤ T i ∧ T i ≤ 57
    · -- a number
      right
      have hnm : nmI (T i) < nI 0 := by
        rcases nmI_cases (T i) with e | ⟨c, -, -, -, h⟩
        · rw [e]
          exact neg0
        · omega
      obtain ⟨τ, i', v, a1, a2, a3, a4, a5, a6, a7, a8⟩ := Number (o := o) (kone := kone) hl hT 4 0 i (nI 0) σ gfu (by omega) (by decide) hP (fun _ => ⟨q, dg⟩) (fun z => absurd rfl z)
      have hE : Ex (τ.1 29) (τ.1 30) m (m + 1) fun _ => τ.1 30 m := Ex_num a6
      refine ⟨τ, i', m + 1, u, _, ?_, a2, a3, a4, ⟨a5.2 rfl, by omega, by have := a5.2 rfl; omega⟩, hE, fun f g z => rfl, id, fun υ hM => ?_⟩
      · show fo_Pa_readOperand kR kO (nI o) σ = some τ
        rw [hst, isDigit_eq hc, decide_eq_true dg, bindE, if_neg (show ¬ bI true = nI 0 by decide)]
        unfold f_Pa_readNumber
        simp only [litE]
        rw [a1, bindE]
      · obtain ⟨υ', b1, b2, b3⟩ := a8 gfu (by decide) υ hM
        refine ⟨υ', ?_, b2, b3⟩
        rw [Mone0 hl hT hM, hbt, if_neg (by omega), if_pos hnm, b1, a7]
    · have hdf : f_Pa_isDigit (nI (T i)) = some (bI false) := by rw [isDigit_eq hc, decide_eq_false dg]
      rw [hdf, bindE, if_pos (show bI false = nI 0 by decide)] at hst
      rcases nmI_cases (T i) with e | ⟨c, c1, c2, c3, c4⟩
      · rw [e, if_pos neg0] at hst
        by_cases un : T i = 33 ∨ T i = 45
        · by_cases o6 : o < 6
          · -- ! or -
            rw [if_neg (h6 o6)] at hst
            have hst2 : fo_Pa_readOperand kR kO (nI o) σ = f_Pa_readOperand_j104 kR kO (nI o) (nI (T i)) σ := by
              rw [hst]
              rcases un with z | z
              · rw [z, if_pos rfl]
              · rw [z, if_neg (show ¬ nI 45 = nI 33 by decide), if_pos rfl]
            have hbn : T i ≠ 40 := by omega
            have hX : ∀ υ, MT len T υ i o → fo_M_one kone υ = (kone (gpi (gpi υ 59 15 (nI (o + 1))) 59 12 (nI (i + 1)))).bind fun q18 => f_M_one_j104 kone (nI (T i)) q18.1 q18.2 := by
              intro υ hM
              rw [Mone0 hl hT hM, hbt, if_pos (by omega), Mj32 hM o6 hc, if_neg hbn]
              congr 1
              funext q18
              exact Mj83n hc hbn
            have h133 : ∀ τ, kO (nI (o + 1)) (gpi σ 27 5 (nI (i + 1))) = some τ → fo_Pa_readOperand kR kO (nI o) σ = f_Pa_emit (if T i = 33 then nI 3 else nI 4) (nI 0) τ := by
              intro τ e1
              rw [hst2]
              unfold f_Pa_readOperand_j104 f_Pa_readOperand_j133
              simp only [litE]
              rw [gupE, hP.2.1.2, nI_add, nI_add, e1, bindE]
              rcases un with z | z
              · rw [z, if_pos rfl, if_pos rfl]
                cases f_Pa_emit (nI 3) (nI 0) τ <;> rfl
              · rw [z, if_neg (show ¬ nI 45 = nI 33 by decide), if_neg (by decide)]
                cases f_Pa_emit (nI 4) (nI 0) τ <;> rfl
            rcases hO o6 _ _ _ _ hP1 with ⟨τ, k, a1, a2, a3, a4⟩ | ⟨τ, i', m', u', V, a1, a2, a3, a4, a5, a6, a7, a8, a9⟩
            · left
              obtain ⟨τ2, b1, b2, b3⟩ := CemitF (if T i = 33 then nI 3 else nI 4) (nI 0) a2
              refine ⟨τ2, k, (h133 τ a1).trans b1, b2, (((Fr.rf cP σ).pi rfl).tr a3).tr b3, fun υ hM => ?_⟩
              obtain ⟨x, υ1, c1, c2, c3⟩ := a4 _ (hM.inn q)
              obtain ⟨y, υ2, d1, d2, d3⟩ := Mj104F (kone := kone) (b := nI (T i)) (v := x) c2
              refine ⟨y, υ2, ?_, d2, ((((Fr.rf cM υ).pi rfl).pi rfl).tr c3).tr d3⟩
              rw [hX υ hM, c1, bindE]
              exact d1
            · right
              obtain ⟨τ2, b1, b2, b3, b4, b5, b6⟩ := a2.emit (if T i = 33 then nI 3 else nI 4) (nI 0) hl (by omega)
              have hE1 : Ex (τ2.1 29) (τ2.1 30) m m' V := a6.cg fun k k1 k2 => b4 k k2
              have hK : Keep m σ τ2 := fun k hk => ⟨(b4 k (by omega)).1.trans (a4 k hk).1, (b4 k (by omega)).2.trans (a4 k hk).2⟩
              have hFr : Fr cP σ τ2 := (((Fr.rf cP σ).pi rfl).tr a3).tr b3
              have hcl : fo_Pa_readOperand kR kO (nI o) σ = some τ2 := (h133 τ a1).trans b1
              have hback : ∀ υ, MT len T υ i o → ∃ υ1, (kone (gpi (gpi υ 59 15 (nI (o + 1))) 59 12 (nI (i + 1)))) = some (V (υ.1 66), υ1) ∧ υ1.1 59 15 = nI (o + 1) ∧ MT len T (gpi υ1 59 15 (nI o)) i' o ∧ Fr cM υ (gpi υ1 59 15 (nI o)) := by
                intro υ hM
                obtain ⟨υ1, c1, c2, c3⟩ := a9 _ (hM.inn q)
                exact ⟨υ1, c1, c2.2.2.2, ⟨c2.1.fr ((Fr.rf cM υ1).pi rfl), c2.2.1, c2.2.2.1, rfl⟩, ((((Fr.rf cM υ).pi rfl).pi rfl).tr c3).pi rfl⟩
              rcases un with z | z
              · rw [if_pos z] at b5
                have hE2 := Ex_not hE1 b5
                refine ⟨τ2, i', m' + 1, u', _, hcl, b2, hFr, hK, by omega, hE2, fun f g y => ?_, a8, fun υ hM => ?_⟩
                · show (if V f = nI 0 then nI 1 else nI 0) = (if V g = nI 0 then nI 1 else nI 0)
                  rw [a7 f g y]
                · obtain ⟨υ1, c1, c2, c3, c4⟩ := hback υ hM
                  refine ⟨gpi υ1 59 15 (nI o), ?_, c3, c4⟩
                  rw [hX υ hM, c1, bindE, Mj104 c2, z, if_neg (show ¬ nI 33 = nI 40 by decide), if_neg (show ¬ nI 33 = nI 45 by decide)]
                  show (if V (υ.1 66) = nI 0 then some (nI 1, gpi υ1 59 15 (nI o)) else some (nI 0, gpi υ1 59 15 (nI o))) = some (if V (υ.1 66) = nI 0 then nI 1 else nI 0, gpi υ1 59 15 (nI o))
                  split <;> rfl
              · rw [if_neg (show ¬ T i = 33 by omega)] at b5
                have hE2 := Ex_neg hE1 b5
                refine ⟨τ2, i', m' + 1, u', _, hcl, b2, hFr, hK, by omega, hE2, fun f g y => ?_, a8, fun υ hM => ?_⟩
                · show -V f = -V g
                  rw [a7 f g y]
                · obtain ⟨υ1, c1, c2, c3, c4⟩ := hback υ hM
                  refine ⟨gpi υ1 59 15 (nI o), ?_, c3, c4⟩
                  rw [hX υ hM, c1, bindE, Mj104 c2, z, if_neg (show ¬ nI 45 = nI 40 by decide), if_pos rfl]
          · left
            refine Orefuse hl hP ?_ fun υ hM => ?_
            · show fo_Pa_readOperand kR kO (nI o) σ = _
              rw [hst, if_pos (h6' o6)]
              unfold f_Pa_readOperand_j140
              simp only [litE]
              rw [if_pos (h6' o6), C186]
            · rw [Mone0 hl hT hM, hbt, if_pos (by omega)]
              unfold f_M_one_j32
              simp only [litE]
              rw [hM.2.2.2, if_pos (show nI o = nI 6 by rw [show o = 6 by omega])]
              cases f_M_wrong υ <;> rfl
        · have hne33 := nIne (a := T i) (b := 33) (by omega) (by decide) (by omega)
          have hne45 := nIne (a := T i) (b := 45) (by omega) (by decide) (by omega)
          have hst2 : fo_Pa_readOperand kR kO (nI o) σ = f_Pa_readOperand_j140 kR kO (nI o) (nI (T i)) σ := by
            rw [hst, if_neg hne33, if_neg hne45]
            split <;> rfl
          by_cases par : T i = 40
          · by_cases o6 : o < 6
            · -- (
              have hX : ∀ υ, MT len T υ i o → fo_M_one kone υ = (fo_M_either kone (gpi (gpi υ 59 15 (nI (o + 1))) 59 12 (nI (i + 1)))).bind fun q9 => f_M_one_j83 kone (nI (T i)) q9.1 q9.2 := by
                intro υ hM
                rw [Mone0 hl hT hM, hbt, if_pos (by omega), Mj32 hM o6 hc, if_pos par]
              have h140 : ∀ τ, kR (nI 0) (nI (o + 1)) (gpi σ 27 5 (nI (i + 1))) = some τ → fo_Pa_readOperand kR kO (nI o) σ = (f_Pa_meets (nI 41) τ).bind fun q14 => if q14.1 = nI 0 then (f_Pa_refuse q14.2).bind fun s16 => some s16 else some q14.2 := by
                intro τ e1
                rw [hst2]
                unfold f_Pa_readOperand_j140
                simp only [litE]
                rw [if_neg (h6 o6), par, if_pos rfl, gupE, hP.2.1.2, nI_add, nI_add, e1, bindE]
              rcases hR o6 _ _ _ _ hP1 with ⟨τ, k, a1, a2, a3, a4⟩ | ⟨τ, i', m', u', V, a1, a2, a3, a4, a5, a6, a7, a8, a9⟩
              · left
                refine ⟨τ, k, ?_, a2, ((Fr.rf cP σ).pi rfl).tr a3, fun υ hM => ?_⟩
                · show fo_Pa_readOperand kR kO (nI o) σ = _
                  rw [h140 τ a1, CmeetsF _ hl a2, bindE, if_pos rfl, CrefuseF hl a2, bindE]
                · obtain ⟨x, υ1, c1, c2, c3⟩ := a4 _ (hM.inn q)
                  obtain ⟨υ2, d1, d2, d3⟩ := MwrongF hl c2
                  refine ⟨nI 0, υ2, ?_, d2, ((((Fr.rf cM υ).pi rfl).pi rfl).tr c3).tr d3⟩
                  rw [hX υ hM, c1, bindE]
                  unfold f_M_one_j83
                  simp only [litE]
                  rw [par, if_pos rfl, MtakesF _ hl c2, bindE, if_pos rfl, d1, bindE]
              · rcases Cmeets (c := 41) hl hT (by decide) a2 with ⟨q1, q2, q3⟩ | ⟨q1, q3⟩
                · right
                  have hP2 := a2.adv (j := i' + 1) (by omega) q1
                  refine ⟨gpi τ 27 5 (nI (i' + 1)), i' + 1, m', u', V, ?_, hP2, (((Fr.rf cP σ).pi rfl).tr a3).pi rfl, a4, by omega, a6, a7, a8, fun υ hM => ?_⟩
                  · show fo_Pa_readOperand kR kO (nI o) σ = _
                    rw [h140 τ a1, q3, bindE, if_neg (show ¬ nI 1 = nI 0 by decide)]
                  · obtain ⟨υ1, c1, c2, c3⟩ := a9 _ (hM.inn q)
                    have e15 : (gpi υ1 59 12 (nI (i' + 1))).1 59 15 = nI (o + 1) := c2.2.2.2
                    refine ⟨gpi (gpi υ1 59 12 (nI (i' + 1))) 59 15 (nI o), ?_, ⟨c2.1.fr (((Fr.rf cM υ1).pi rfl).pi rfl), ⟨q1, rfl⟩, c2.2.2.1, rfl⟩, (((((Fr.rf cM υ).pi rfl).pi rfl).tr c3).pi rfl).pi rfl⟩
                    rw [hX υ hM, c1, bindE]
                    unfold f_M_one_j83
                    simp only [litE]
                    rw [par, if_pos rfl, (Mtakes hl hT (by decide) c2).1 ⟨q1, q2⟩, bindE, if_neg (show ¬ nI 1 = nI 0 by decide), Mj104 e15, if_pos rfl]
                    rfl
                · left
                  obtain ⟨r1, r2⟩ := Crefuse hl a2
                  refine ⟨gpi τ 27 6 (nI i'), i', ?_, r2, (((Fr.rf cP σ).pi rfl).tr a3).pi rfl, fun υ hM => ?_⟩
                  · show fo_Pa_readOperand kR kO (nI o) σ = _
                    rw [h140 τ a1, q3, bindE, if_pos rfl, r1, bindE]
                  · obtain ⟨υ1, c1, c2, c3⟩ := a9 _ (hM.inn q)
                    obtain ⟨w1, w2⟩ := Mwrong c2
                    refine ⟨nI 0, gpi υ1 59 14 (nI i'), ?_, w2, ((((Fr.rf cM υ).pi rfl).pi rfl).tr c3).pi rfl⟩
                    rw [hX υ hM, c1, bindE]
                    unfold f_M_one_j83
                    simp only [litE]
                    rw [par, if_pos rfl, (Mtakes hl hT (by decide) c2).2 q1, bindE, if_pos rfl, w1, bindE]
            · left
              refine Orefuse hl hP ?_ fun υ hM => ?_
              · show fo_Pa_readOperand kR kO (nI o) σ = _
                rw [hst2]
                unfold f_Pa_readOperand_j140
                simp only [litE]
                rw [if_pos (h6' o6), C186]
              · rw [Mone0 hl hT hM, hbt, if_pos (by omega)]
                unfold f_M_one_j32
                simp only [litE]
                rw [hM.2.2.2, if_pos (show nI o = nI 6 by rw [show o = 6 by omega])]
                cases f_M_wrong υ <;> rfl
          · -- no operand
            left
            refine Orefuse hl hP ?_ fun υ hM => ?_
            · show fo_Pa_readOperand kR kO (nI o) σ = _
              rw [hst2]
              unfold f_Pa_readOperand_j140
              simp only [litE]
              rw [if_neg (nIne (a := T i) (b := 40) (by omega) (by decide) par), C186]
              split <;> rfl
            · rw [Mone0 hl hT hM, hbt, if_neg (by omega), e, if_pos neg0]
              refine ((Mdigit (n := 1999) (k := 0) hl hT (by decide) hM).2 (fun z => dg z.2)).trans ?_
              unfold f_M_one_j229
              simp only [litE]
              rw [if_pos trivial]
              cases f_M_wrong υ <;> rfl
      · -- a name
        right
        have hnn : ¬ nI c < nI 0 := by
          rw [nI_ltI (by omega) (by omega)]
          omega
        rw [c2, if_neg hnn, gupE] at hst
        obtain ⟨τ, a1, a2, a3, a4, a5, a6⟩ := hP1.emit (nI 2) (nI c) hl (by omega)
        have hE : Ex (τ.1 29) (τ.1 30) m (m + 1) fun f => f c := Ex_name a5 a6 c1
        refine ⟨gpi τ 27 7 (bI (u || decide (c = 4))), i + 1, m + 1, u || decide (c = 4), _, ?_, ⟨a2.1.fr ((Fr.rf cP τ).pi rfl), a2.2.1, a2.2.2.1, a2.2.2.2.1, rfl⟩, (((Fr.rf cP σ).pi rfl).tr a3).pi rfl, fun k hk => ⟨(a4 k hk).1, (a4 k hk).2⟩, by omega, hE, fun f g z => ?_, fun z => by rw [z]; rfl, fun υ hM => ?_⟩
        · show fo_Pa_readOperand kR kO (nI o) σ = _
          rw [hst, a1, bindE, a2.2.2.2.2]
          unfold f_Pa_readOperand_j79
          by_cases q4 : c = 4
          · rw [if_pos (show nI c = nI 4 by rw [q4]), decide_eq_true q4]
            cases u <;> rfl
          · rw [if_neg (nIne (by omega) (by decide) q4), decide_eq_false q4]
            cases u <;> rfl
        · refine z c c1 ?_
          by_cases q4 : c = 4
          · right
            rw [decide_eq_true q4, Bool.or_true]
          · exact Or.inl q4
        · refine ⟨gpi υ 59 12 (nI (i + 1)), ?_, hM.adv q, (Fr.rf cM υ).pi rfl⟩
          rw [Mone0 hl hT hM, hbt, if_neg (by omega), c2, if_neg hnn, gupE, if_pos (gix_nI c1 (by decide)), nI_clamp (by omega)]
          rfl
  · -- the end
    left
    have hst := hstart (-nI 1) (-nI 1) (fun z => absurd z q) (fun _ => ⟨rfl, rfl⟩)
    have hbt : bt len T i = 0 := by
      unfold bt
      rw [if_neg q]
    refine Orefuse hl hP ?_ fun υ hM => ?_
    · show fo_Pa_readOperand kR kO (nI o) σ = _
      rw [hst, show f_Pa_isDigit (-nI 1) = some (bI false) by decide, bindE, if_pos (show bI false = nI 0 by decide), if_pos neg0, if_neg (show ¬ -nI 1 = nI 33 by decide), if_neg (show ¬ -nI 1 = nI 45 by decide)]
      have h140 : f_Pa_readOperand_j140 kR kO (nI o) (-nI 1) σ = f_Pa_refuse σ := by
        unfold f_Pa_readOperand_j140
        simp only [litE]
        rw [if_neg (show ¬ -nI 1 = nI 40 by decide), C186]
        split <;> rfl
      rw [h140]
      split <;> rfl
    · rw [Mone0 hl hT hM, hbt, if_neg (by omega), if_pos (show nmI 0 < nI 0 by decide)]
      refine ((Mdigit (n := 1999) (k := 0) hl hT (by decide) hM).2 (fun z => q z.1)).trans ?_
      unfold f_M_one_j229
      simp only [litE]
      rw [if_pos trivial]
      cases f_M_wrong υ <;> rfl
theorem OperAll {len : Nat} {T : Nat → Nat} (hl : len ≤ 120) (hT : ∀ j, j < len → T j < 256) : ∀ d o f g, o + d = 6 → 7 * d + 1 ≤ f → d + 1 ≤ g → Ag len T (fun σ => f_Pa_rr f false 0 (nI o) σ) (f_M_one g) o := by
  intro d
  induction d with
  | zero =>
    intro o f g ho hf hg
    obtain ⟨f', rfl⟩ : ∃ f', f = f' + 1 := ⟨f - 1, by omega⟩
    obtain ⟨g', rfl⟩ : ∃ g', g = g' + 1 := ⟨g - 1, by omega⟩
    exact (Oper (kR := fun v1 v2 σ => f_Pa_rr f' true v1 v2 σ) (kO := fun v1 σ => f_Pa_rr f' false 0 v1 σ) (kone := fun σ => f_M_one g' σ) hl hT (by omega) (fun z => by omega) (fun z => by omega)).cg (fun σ => rfl) (fun σ => rfl)
  | succ d ih =>
    intro o f g ho hf hg
    obtain ⟨f', rfl⟩ : ∃ f', f = f' + 7 := ⟨f - 7, by omega⟩
    obtain ⟨g', rfl⟩ : ∃ g', g = g' + 1 := ⟨g - 1, by omega⟩
    have h1 := ih (o + 1) (f' + 6) g' (by omega) (by omega) (by omega)
    have h2 := Ranks hl hT (ih (o + 1) f' g' (by omega) (by omega) (by omega))
    exact (Oper (kR := fun v1 v2 σ => f_Pa_rr (f' + 6) true v1 v2 σ) (kO := fun v1 σ => f_Pa_rr (f' + 6) false 0 v1 σ) (kone := fun σ => f_M_one g' σ) hl hT (by omega) (fun z => h1.cg (fun σ => rfl) (fun σ => rfl)) (fun z => h2.cg (fun σ => rfl) (fun σ => rfl))).cg (fun σ => rfl) (fun σ => rfl)
/-- the whole of an expression -/
theorem Expr {len : Nat} {T : Nat → Nat} (hl : len ≤ 120) (hT : ∀ j, j < len → T j < 256) : Ag len T (fun σ => f_Pa_readRank 60 (nI 0) (nI 0) σ) f_M_either 0 :=
  (Ranks hl hT (OperAll hl hT 6 0 54 8 (by decide) (by decide) (by decide))).cg (fun σ => rfl) (fun σ => rfl)
