/-! pure: all lines -/
theorem CmeetsL {len i m c : Nat} {u : Bool} {T : Nat → Nat} {σ : gS} (hl : len ≤ 120) (hT : ∀ j, j < len → T j < 256) (hc : c < 256) (h : CPl len T σ i m u) : (i < len ∧ T i = c ∧ f_Pa_meets (nI c) σ = some (nI 1, gpi σ 27 5 (nI (i + 1)))) ∨ (¬ (i < len ∧ T i = c) ∧ f_Pa_meets (nI c) σ = some (nI 0, σ)) := by
  obtain ⟨h1, h2, h3, h4, h5⟩ := h
  unfold f_Pa_meets
  simp only [litE]
  rw [h4, if_pos rfl, Cnext hl h1 h2.1 h2.2, bindE]
  by_cases q : i < len
  · have := hT i q
    by_cases q2 : T i = c
    · left
      refine ⟨q, q2, ?_⟩
      rw [if_pos q, if_pos (by rw [q2]), gupE, h2.2, nI_add]
    · right
      refine ⟨fun z => q2 z.2, ?_⟩
      rw [if_pos q, if_neg (by rw [nI_eq (by omega) (by omega)]; exact q2)]
  · right
    refine ⟨fun z => q z.1, ?_⟩
    rw [if_neg q, if_neg (fun z => m1_ne (k := c) (by omega) z.symm)]
def DDp (D : (Nat → Int32) → Option Int32) (u : Bool) : Prop := ∀ f g : Nat → Int32, (∀ i, i < 6 → (i ≠ 4 ∨ u = true) → f i = g i) → D f = D g
theorem L26F {len k cf v2 : Nat} {T : Nat → Nat} {σ : gS} (hl : len ≤ 120) (h : CF len T σ k) : f_Pa_readInto_L26 (cf + 1) (nI v2) σ = f_Pa_readInto_j66 σ := by
  have h51 : f_Pa_readInto_j51 σ = f_Pa_readInto_j66 σ := by
    unfold f_Pa_readInto_j51
    rw [CrefuseF hl h, bindE]
    split <;> rfl
  rw [f_Pa_readInto_L26]
  simp only [litE]
  rw [CmeetsF _ hl h, bindE, if_pos rfl, h51]
  split <;> rfl
def M96 (rf : Nat) (v3 v4 : Int32) (υ : gS) : Option (Int32 × gS) := f_M_workOut_j96 (fun v3 v4 v5 σ => f_M_workOut_L33 rf v3 v4 v5 σ) v3 v4 υ
theorem Lines {len : Nat} {T : Nat → Nat} (hl : len ≤ 120) (hT : ∀ j, j < len → T j < 256) : ∀ t i m u σ v2 cf D, len - i ≤ t → v2 ≤ i → 123 ≤ cf + v2 → v2 ≤ 120 → CPl len T σ i m u → 0 < m → LEx (σ.1 29) (σ.1 30) 0 m D → DDp D u →
    (∃ τ k, f_Pa_readInto_L26 cf (nI v2) σ = f_Pa_readInto_j66 τ ∧ CF len T τ k ∧ Fr cP σ τ ∧ ∀ rf, t + 2 < rf → ∀ υ, MT len T υ i 0 → ∃ x υ', M96 rf (A3 (D (υ.1 66))) (A4 (D (υ.1 66))) υ = some (x, υ') ∧ MF len T υ' k ∧ Fr cM υ υ') ∨
    (∃ τ m' u' D', f_Pa_readInto_L26 cf (nI v2) σ = f_Pa_readInto_j66 τ ∧ CPl len T τ len m' u' ∧ Fr cP σ τ ∧ 0 < m' ∧ LEx (τ.1 29) (τ.1 30) 0 m' D' ∧ DDp D' u' ∧ ∀ rf, t + 2 < rf → ∀ υ, MT len T υ i 0 → ∃ υ', M96 rf (A3 (D (υ.1 66))) (A4 (D (υ.1 66))) υ = some (A4 (D' (υ.1 66)), υ') ∧ MT len T υ' len 0 ∧ Fr cM υ υ') := by
  have e66 : ∀ υ υ' : gS, Fr cM υ υ' → υ'.1 66 = υ.1 66 := fun υ υ' hF => by
    funext k
    exact hF.1 66 k rfl
  have stop : ∀ t i m u σ v2 cf D, v2 ≤ 120 → v2 ≤ i → 1 ≤ cf → CPl len T σ i m u → 0 < m → LEx (σ.1 29) (σ.1 30) 0 m D → DDp D u → ¬ (i < len ∧ T i = 59) →
    (∃ τ k, f_Pa_readInto_L26 cf (nI v2) σ = f_Pa_readInto_j66 τ ∧ CF len T τ k ∧ Fr cP σ τ ∧ ∀ rf, t + 2 < rf → ∀ υ, MT len T υ i 0 → ∃ x υ', M96 rf (A3 (D (υ.1 66))) (A4 (D (υ.1 66))) υ = some (x, υ') ∧ MF len T υ' k ∧ Fr cM υ υ') ∨
    (∃ τ m' u' D', f_Pa_readInto_L26 cf (nI v2) σ = f_Pa_readInto_j66 τ ∧ CPl len T τ len m' u' ∧ Fr cP σ τ ∧ 0 < m' ∧ LEx (τ.1 29) (τ.1 30) 0 m' D' ∧ DDp D' u' ∧ ∀ rf, t + 2 < rf → ∀ υ, MT len T υ i 0 → ∃ υ', M96 rf (A3 (D (υ.1 66))) (A4 (D (υ.1 66))) υ = some (A4 (D' (υ.1 66)), υ') ∧ MT len T υ' len 0 ∧ Fr cM υ υ') := by
    intro t i m u σ v2 cf D hv hvi hcf hP hm hE hD hn
    obtain ⟨c', rfl⟩ : ∃ c', cf = c' + 1 := ⟨cf - 1, by omega⟩
    have hi := hP.2.1.1
    have h51 : f_Pa_readInto_L26 (c' + 1) (nI v2) σ = f_Pa_readInto_j51 σ := by
      rw [f_Pa_readInto_L26]
      simp only [litE]
      rcases CmeetsL (c := 59) hl hT (by decide) hP with ⟨q1, q2, q3⟩ | ⟨q1, q3⟩
      · exact absurd ⟨q1, q2⟩ hn
      · rw [q3, bindE, if_pos rfl]
        split <;> rfl
    have href : ∀ (rf : Nat) (υ : gS) (v3 v4 : Int32), MT len T υ i 0 → M96 (rf + 1) v3 v4 υ = if len ≤ i then some (v4, υ) else (f_M_wrong υ).bind fun q9 => some (q9.1, q9.2) := by
      intro rf υ v3 v4 hM
      unfold M96 f_M_workOut_j96
      simp only [litE]
      rw [(Mtakes hl hT (by decide) hM).2 hn, bindE]
      show f_M_workOut_L33 (rf + 1) v3 v4 (nI 0) υ = _
      rw [f_M_workOut_L33]
      simp only [litE]
      rw [if_pos trivial, if_neg (Mpos14 hM), hM.1.1, hM.2.1.2]
      by_cases q : len ≤ i
      · rw [if_pos q, if_pos (nI_le q (by omega))]
      · rw [if_neg q, if_neg (nI_ge (by omega) (by omega))]
    by_cases q : len ≤ i
    · have eq : i = len := by omega
      subst eq
      right
      refine ⟨σ, m, u, D, ?_, hP, Fr.rf _ _, hm, hE, hD, fun rf hrf υ hM => ⟨υ, ?_, hM, Fr.rf _ _⟩⟩
      · rw [h51]
        unfold f_Pa_readInto_j51
        rw [hP.1.1, hP.2.1.2, if_pos (show nI i ≤ nI i from Int32.le_refl _)]
      · obtain ⟨r', rfl⟩ : ∃ r', rf = r' + 1 := ⟨rf - 1, by omega⟩
        rw [href r' υ _ _ hM, if_pos (Nat.le_refl _)]
    · left
      have hre : f_Pa_refuse σ = some (gpi σ 27 6 (nI i)) := by
        unfold f_Pa_refuse
        simp only [litE]
        rw [hP.2.2.2.1, if_pos rfl, gupE, hP.2.1.2]
      refine ⟨gpi σ 27 6 (nI i), i, ?_, ⟨hP.1.fr ((Fr.rf cP σ).pi rfl), ⟨hi, rfl⟩, ⟨i, hi, hP.2.1.2⟩, ⟨m, by have := hP.2.2.1.1; omega, hP.2.2.1.2⟩, u, hP.2.2.2.2⟩, (Fr.rf cP σ).pi rfl, fun rf hrf υ hM => ?_⟩
      · rw [h51]
        unfold f_Pa_readInto_j51
        rw [hP.1.1, hP.2.1.2, if_neg (nI_ge (by omega) (by omega)), hre, bindE]
      · obtain ⟨r', rfl⟩ : ∃ r', rf = r' + 1 := ⟨rf - 1, by omega⟩
        obtain ⟨w1, w2⟩ := Mwrong hM
        refine ⟨nI 0, gpi υ 59 14 (nI i), ?_, w2, (Fr.rf cM υ).pi rfl⟩
        rw [href r' υ _ _ hM, if_neg q, w1, bindE]
  intro t
  induction t with
  | zero =>
    intro i m u σ v2 cf D ht hv hcf hv2 hP hm hE hD
    exact stop 0 i m u σ v2 cf D hv2 hv (by omega) hP hm hE hD (by omega)
  | succ t ih =>
    intro i m u σ v2 cf D ht hv hcf hv2 hP hm hE hD
    by_cases q : i < len ∧ T i = 59
    · obtain ⟨q1, q2⟩ := q
      obtain ⟨c', rfl⟩ : ∃ c', cf = c' + 1 := ⟨cf - 1, by omega⟩
      have hq3 : f_Pa_meets (nI 59) σ = some (nI 1, gpi σ 27 5 (nI (i + 1))) := by
        rcases CmeetsL (c := 59) hl hT (by decide) hP with ⟨-, -, q3⟩ | ⟨z, -⟩
        · exact q3
        · exact absurd ⟨q1, q2⟩ z
      have hP1 : CP len T (gpi σ 27 5 (nI (i + 1))) (i + 1) m u := ⟨hP.1.fr ((Fr.rf cP σ).pi rfl), ⟨q1, rfl⟩, ⟨hP.2.2.1.1, hP.2.2.1.2⟩, hP.2.2.2.1, hP.2.2.2.2⟩
      have hstep : ∀ τ, f_Pa_readLine (gpi σ 27 5 (nI (i + 1))) = some τ → f_Pa_readInto_L26 (c' + 1) (nI v2) σ = f_Pa_readInto_L26 c' (nI (v2 + 1)) τ := by
        intro τ e
        rw [f_Pa_readInto_L26]
        simp only [litE]
        rw [if_neg (nI_ge (by omega) (by decide)), hq3, bindE, if_neg (show ¬ nI 1 = nI 0 by decide), e, bindE, nI_add]
      have href : ∀ (rf : Nat) (υ : gS) (v3 v4 : Int32), MT len T υ i 0 → M96 rf v3 v4 υ = f_M_workOut_L33 rf v3 v4 (nI 1) (gpi υ 59 12 (nI (i + 1))) := by
        intro rf υ v3 v4 hM
        unfold M96 f_M_workOut_j96
        simp only [litE]
        rw [(Mtakes hl hT (by decide) hM).1 ⟨q1, q2⟩, bindE]
      rcases Line hl hT _ _ _ _ hP1 with ⟨τ, k, a1, a2, a3, a4⟩ | ⟨τ, i', m', u', D2, a1, a2, a3, a4, a5, a6, a7, a8, a9⟩
      · left
        obtain ⟨c2, rfl⟩ : ∃ c2, c' = c2 + 1 := ⟨c' - 1, by omega⟩
        refine ⟨τ, k, (hstep τ a1).trans (L26F hl a2), a2, ((Fr.rf cP σ).pi rfl).tr a3, fun rf hrf υ hM => ?_⟩
        obtain ⟨r', rfl⟩ : ∃ r', rf = r' + 2 := ⟨rf - 2, by omega⟩
        obtain ⟨x, υ', b1, b2, b3⟩ := a4 _ (A3 (D (υ.1 66))) (A4 (D (υ.1 66))) r' (hM.adv (j := i + 1) q1)
        exact ⟨x, υ', (href _ υ _ _ hM).trans b1, b2, ((Fr.rf cM υ).pi rfl).tr b3⟩
      · have hE1 : LEx (τ.1 29) (τ.1 30) 0 m D := hE.cg fun k _ k2 => a4 k k2
        have hE2 := hE1.seq a6
        have hD2 : DDp (fun f => (D f).orElse fun _ => D2 f) u' := fun f g z => by
          show (D f).orElse _ = (D g).orElse _
          rw [hD f g fun i hi y => z i hi (y.imp id a8), a7 f g z]
        have hlast : ∀ rf, t + 3 < rf → ∀ υ, MT len T υ i 0 → ∃ r' υ1, t + 2 < r' ∧ MT len T υ1 i' 0 ∧ υ1.1 66 = υ.1 66 ∧ Fr cM υ υ1 ∧ M96 rf (A3 (D (υ.1 66))) (A4 (D (υ.1 66))) υ = M96 r' (A3 ((fun f => (D f).orElse fun _ => D2 f) (υ1.1 66))) (A4 ((fun f => (D f).orElse fun _ => D2 f) (υ1.1 66))) υ1 := by
          intro rf hrf υ hM
          obtain ⟨r', rfl⟩ : ∃ r', rf = r' + 1 := ⟨rf - 1, by omega⟩
          obtain ⟨υ1, b1, b2, b3⟩ := a9 _ (D (υ.1 66)) r' (hM.adv (j := i + 1) q1)
          have hF := ((Fr.rf cM υ).pi (c := 59) (k := 12) (x := nI (i + 1)) rfl).tr b3
          refine ⟨r', υ1, by omega, b2, e66 υ υ1 hF, hF, ?_⟩
          rw [href _ υ _ _ hM, b1, e66 υ υ1 hF]
          rfl
        rcases ih i' m' u' τ (v2 + 1) c' _ (by omega) (by omega) (by omega) (by omega) a2 (by omega) hE2 hD2 with ⟨τ3, k, d1, d2, d3, d4⟩ | ⟨τ3, m3, u3, D3, d1, d2, d3, d4, d5, d6, d7⟩
        · left
          refine ⟨τ3, k, (hstep τ a1).trans d1, d2, (((Fr.rf cP σ).pi rfl).tr a3).tr d3, fun rf hrf υ hM => ?_⟩
          obtain ⟨r', υ1, g1, g2, g3, g4, g5⟩ := hlast rf hrf υ hM
          obtain ⟨x, υ', h1, h2, h3⟩ := d4 r' g1 υ1 g2
          exact ⟨x, υ', g5.trans h1, h2, g4.tr h3⟩
        · right
          refine ⟨τ3, m3, u3, D3, (hstep τ a1).trans d1, d2, (((Fr.rf cP σ).pi rfl).tr a3).tr d3, d4, d5, d6, fun rf hrf υ hM => ?_⟩
          obtain ⟨r', υ1, g1, g2, g3, g4, g5⟩ := hlast rf hrf υ hM
          obtain ⟨υ', h1, h2, h3⟩ := d7 r' g1 υ1 g2
          exact ⟨υ', by rw [g5, h1, g3], h2, g4.tr h3⟩
    · exact stop (t + 1) i m u σ v2 cf D hv2 hv (by omega) hP hm hE hD q
theorem Reads {len : Nat} {T : Nat → Nat} (hl : len ≤ 120) (hT : ∀ j, j < len → T j < 256) {σ : gS} (hB : CB len T σ) :
    (∃ τ k, f_Pa_readInto σ = f_Pa_readInto_j66 τ ∧ CF len T τ k ∧ Fr cP σ τ ∧ ∀ υ, MT len T υ 0 0 → ∃ x υ', f_M_workOut_L33 gfu (nI 0) (nI 0) (nI 1) υ = some (x, υ') ∧ MF len T υ' k ∧ Fr cM υ υ') ∨
    (∃ τ m u D, f_Pa_readInto σ = f_Pa_readInto_j66 τ ∧ CPl len T τ len m u ∧ Fr cP σ τ ∧ 0 < m ∧ LEx (τ.1 29) (τ.1 30) 0 m D ∧ DDp D u ∧ ∀ υ, MT len T υ 0 0 → ∃ υ', f_M_workOut_L33 gfu (nI 0) (nI 0) (nI 1) υ = some (A4 (D (υ.1 66)), υ') ∧ MT len T υ' len 0 ∧ Fr cM υ υ') := by
  have e66 : ∀ υ υ' : gS, Fr cM υ υ' → υ'.1 66 = υ.1 66 := fun υ υ' hF => by
    funext k
    exact hF.1 66 k rfl
  have hF0 : Fr cP σ (gpi (gpi (gpi (gpi σ 27 4 (nI 0)) 27 5 (nI 0)) 27 6 (-nI 1)) 27 7 (nI 0)) := ((((Fr.rf cP σ).pi rfl).pi rfl).pi rfl).pi rfl
  have hP0 : CP len T (gpi (gpi (gpi (gpi σ 27 4 (nI 0)) 27 5 (nI 0)) 27 6 (-nI 1)) 27 7 (nI 0)) 0 0 false := ⟨hB.fr hF0, ⟨Nat.zero_le _, rfl⟩, ⟨Nat.le_refl _, rfl⟩, rfl, rfl⟩
  have hgo : ∀ τ, f_Pa_readLine (gpi (gpi (gpi (gpi σ 27 4 (nI 0)) 27 5 (nI 0)) 27 6 (-nI 1)) 27 7 (nI 0)) = some τ → f_Pa_readInto σ = f_Pa_readInto_L26 gfu (nI 0) τ := by
    intro τ e
    unfold f_Pa_readInto
    simp only [litE]
    rw [gupE, gupE, gupE, gupE, e, bindE]
  rcases Line hl hT _ _ _ _ hP0 with ⟨τ, k, a1, a2, a3, a4⟩ | ⟨τ, i', m', u', D2, a1, a2, a3, a4, a5, a6, a7, a8, a9⟩
  · left
    refine ⟨τ, k, (hgo τ a1).trans (L26F (cf := 1999) hl a2), a2, hF0.tr a3, fun υ hM => a4 υ _ _ 1998 hM⟩
  · have href : ∀ υ, MT len T υ 0 0 → ∃ υ1, MT len T υ1 i' 0 ∧ υ1.1 66 = υ.1 66 ∧ Fr cM υ υ1 ∧ f_M_workOut_L33 gfu (nI 0) (nI 0) (nI 1) υ = M96 1999 (A3 (D2 (υ1.1 66))) (A4 (D2 (υ1.1 66))) υ1 := by
      intro υ hM
      obtain ⟨υ1, b1, b2, b3⟩ := a9 υ none 1999 hM
      refine ⟨υ1, b2, e66 υ υ1 b3, b3, ?_⟩
      rw [e66 υ υ1 b3]
      exact b1
    rcases Lines hl hT 120 i' m' u' τ 0 gfu D2 (by omega) (by omega) (by decide) (by decide) a2 (by omega) a6 a7 with ⟨τ3, k, d1, d2, d3, d4⟩ | ⟨τ3, m3, u3, D3, d1, d2, d3, d4, d5, d6, d7⟩
    · left
      refine ⟨τ3, k, (hgo τ a1).trans d1, d2, (hF0.tr a3).tr d3, fun υ hM => ?_⟩
      obtain ⟨υ1, g1, g2, g3, g4⟩ := href υ hM
      obtain ⟨x, υ', h1, h2, h3⟩ := d4 1999 (by decide) υ1 g1
      exact ⟨x, υ', g4.trans h1, h2, g3.tr h3⟩
    · right
      refine ⟨τ3, m3, u3, D3, (hgo τ a1).trans d1, d2, (hF0.tr a3).tr d3, d4, d5, d6, fun υ hM => ?_⟩
      obtain ⟨υ1, g1, g2, g3, g4⟩ := href υ hM
      obtain ⟨υ', h1, h2, h3⟩ := d7 1999 (by decide) υ1 g1
      exact ⟨υ', by rw [g4, h1, g2], h2, g3.tr h3⟩
