/-! pure: all ranks over an operand -/
def Kc (kone : gS → Option (Int32 × gS)) (acc : Int32) (υ : gS) : Option (Int32 × gS) :=
  (f_M_byteAt υ).bind fun q2 => if 0 ≤ (υ.1 59 14) then some (acc, υ) else if q2 = (60) then f_M_compared_j37 kone acc q2 υ else if q2 = (61) then f_M_compared_j37 kone acc q2 υ else if q2 = (62) then f_M_compared_j37 kone acc q2 υ else some (acc, υ)
theorem Kc1 {len o i : Nat} {T : Nat → Nat} {kone : gS → Option (Int32 × gS)} {acc : Int32} {υ : gS} (hl : len ≤ 120) (hT : ∀ j, j < len → T j < 256) (hM : MT len T υ i o) (hn : ¬ (i < len ∧ rkN (T i) = 2)) : Kc kone acc υ = some (acc, υ) := by
  have hb := bt_lt (i := i) hT
  have hne : ∀ c, c = 60 ∨ c = 61 ∨ c = 62 → bt len T i ≠ c := by
    intro c hc q
    obtain ⟨q1, q2⟩ := (bt_eq (by omega)).mp q
    exact hn ⟨q1, (rk2 _).mpr (by omega)⟩
  have h1 := hne 60 (by omega)
  have h2 := hne 61 (by omega)
  have h3 := hne 62 (by omega)
  unfold Kc
  simp only [litE]
  rw [MbyteN hl hM, bindE, if_neg (Mpos14 hM), if_neg (nIne (by omega) (by decide) h1), if_neg (nIne (by omega) (by decide) h2), if_neg (nIne (by omega) (by decide) h3)]
theorem Kc2 {len o i : Nat} {T : Nat → Nat} {kone : gS → Option (Int32 × gS)} {acc : Int32} {υ : gS} (hl : len ≤ 120) (hM : MT len T υ i o) (hi : i < len) (hr : rkN (T i) = 2) : Kc kone acc υ = (fo_M_sums kone (gpi υ 59 12 (nI (i + 1)))).bind fun q => some (jn (nI (T i)) acc q.1, q.2) := by
  have hb : bt len T i = T i := by
    unfold bt
    rw [if_pos hi]
  have h37 : Kc kone acc υ = f_M_compared_j37 kone acc (nI (T i)) υ := by
    unfold Kc
    simp only [litE]
    rw [MbyteN hl hM, bindE, if_neg (Mpos14 hM), hb]
    rcases (rk2 _).mp hr with e | e | e
    · rw [e, if_pos rfl]
    · rw [e, if_neg (show ¬ nI 61 = nI 60 by decide), if_pos rfl]
    · rw [e, if_neg (show ¬ nI 62 = nI 60 by decide), if_neg (show ¬ nI 62 = nI 61 by decide), if_pos rfl]
  rw [h37]
  unfold f_M_compared_j37 f_M_compared_j85
  simp only [litE]
  rw [gupE, hM.2.1.2, nI_add]
  cases fo_M_sums kone (gpi υ 59 12 (nI (i + 1))) with
  | none => rfl
  | some q =>
    rw [bindE, bindE]
    rcases (rk2 _).mp hr with e | e | e
    · rw [e, if_pos rfl, jn_lt]
      split <;> rfl
    · rw [e, if_neg (show ¬ nI 61 = nI 60 by decide), if_pos rfl, jn_eqq]
      split <;> rfl
    · rw [e, if_neg (show ¬ nI 62 = nI 60 by decide), if_neg (show ¬ nI 62 = nI 61 by decide), jn_gt]
      split <;> rfl
theorem Kc3 {len k : Nat} {T : Nat → Nat} {kone : gS → Option (Int32 × gS)} {acc : Int32} {υ : gS} (hl : len ≤ 120) (hM : MF len T υ k) : Kc kone acc υ = some (acc, υ) := by
  obtain ⟨b, e⟩ := MbyteF hl hM
  unfold Kc
  simp only [litE]
  rw [e, bindE, if_pos (Mneg14 hl hM)]
theorem L34_one {cf r o : Nat} {τ : gS} {kR : Int32 → Int32 → gS → Option gS} {kO : Int32 → gS → Option gS} : f_Pa_readRank_L34 kR kO (cf + 1) (nI r) (nI o) (nI 1) (nI 1) τ = some τ := by
  rw [f_Pa_readRank_L34, if_pos (show nI 1 ≤ nI 1 by decide)]
theorem Chain2 {len o : Nat} {T : Nat → Nat} {kone : gS → Option (Int32 × gS)} {kR : Int32 → Int32 → gS → Option gS} {kO : Int32 → gS → Option gS} (hl : len ≤ 120) (hT : ∀ j, j < len → T j < 256)
    (hC : Ag len T (fun σ => kR (nI 3) (nI o) σ) (fo_M_sums kone) o) : Ag len T (fun σ => fo_Pa_readRank kR kO (nI 2) (nI o) σ) (fo_M_compared kone) o := by
  intro σ i m u hP
  have hgo : ∀ τ, kR (nI 3) (nI o) σ = some τ → fo_Pa_readRank kR kO (nI 2) (nI o) σ = f_Pa_readRank_L34 kR kO gfu (nI 2) (nI o) (nI 1) (nI 0) τ := by
    intro τ e
    unfold fo_Pa_readRank
    simp only [litE]
    rw [if_pos (show nI 2 < nI 5 by decide), nI_add, e, bindE, if_pos trivial]
    rfl
  have hcm : ∀ υ, fo_M_compared kone υ = (fo_M_sums kone υ).bind fun q => Kc kone q.1 q.2 := fun υ => rfl
  have e66 : ∀ υ υ' : gS, Fr cM υ υ' → υ'.1 66 = υ.1 66 := fun υ υ' hF => by
    funext k
    exact hF.1 66 k rfl
  rcases hC σ i m u hP with ⟨τ, k, a1, a2, a3, a4⟩ | ⟨τ, i1, m1, u1, V, a1, a2, a3, a4, a5, a6, a7, a8, a9⟩
  · left
    refine ⟨τ, k, ?_, a2, a3, fun υ hM => ?_⟩
    · show fo_Pa_readRank kR kO (nI 2) (nI o) σ = some τ
      rw [hgo τ a1]
      exact L34_stopF (cf := 1999) hl a2
    · obtain ⟨x, υ', c1, c2, c3⟩ := a4 υ hM
      refine ⟨x, υ', ?_, c2, c3⟩
      rw [hcm, c1, bindE]
      exact Kc3 hl c2
  · by_cases q : i1 < len ∧ rkN (T i1) = 2
    · obtain ⟨q1, q2⟩ := q
      have hstep := L34_step (cf := 1999) (o := o) (lim := 1) (v4 := 0) (kR := kR) (kO := kO) hl hT (by decide) a2 (by decide) q1 q2
      have hP1 := a2.adv (j := i1 + 1) (by omega) (by omega)
      have hop := rk_op q2 (by decide)
      have hm1 := a2.2.2.1.1
      rcases hC _ _ _ _ hP1 with ⟨τ2, k, b1, b2, b3, b4⟩ | ⟨τ2, i2, m2, u2, V2, b1, b2, b3, b4, b5, b6, b7, b8, b9⟩
      · left
        have b1 : kR (nI (2 + 1)) (nI o) (gpi τ 27 5 (nI (i1 + 1))) = some τ2 := b1
        obtain ⟨τ3, d1, d2, d3⟩ := CemitF (nI (T i1)) (nI 0) b2
        refine ⟨τ3, k, ?_, d2, (a3.tr (((Fr.rf cP τ).pi rfl).tr b3)).tr d3, fun υ hM => ?_⟩
        · show fo_Pa_readRank kR kO (nI 2) (nI o) σ = _
          rw [hgo τ a1]
          refine hstep.trans ?_
          rw [b1, bindE, d1, bindE]
          exact L34_one (cf := 1998)
        · obtain ⟨υ1, c1, c2, c3⟩ := a9 υ hM
          obtain ⟨x, υ2, g1, g2, g3⟩ := b4 _ (c2.adv (j := i1 + 1) (by omega))
          refine ⟨jn (nI (T i1)) (V (υ.1 66)) x, υ2, ?_, g2, (c3.pi rfl).tr g3⟩
          rw [hcm, c1, bindE]
          show Kc kone (V (υ.1 66)) υ1 = _
          rw [Kc2 hl c2 q1 q2, g1, bindE]
      · right
        have b1 : kR (nI (2 + 1)) (nI o) (gpi τ 27 5 (nI (i1 + 1))) = some τ2 := b1
        obtain ⟨τ3, d1, d2, d3, d4, d5, d6⟩ := b2.emit (nI (T i1)) (nI 0) hl (by omega)
        have hE1 : Ex (τ3.1 29) (τ3.1 30) m m1 V := a6.cg fun k k1 k2 => ⟨(d4 k (by omega)).1.trans (b4 k k2).1, (d4 k (by omega)).2.trans (b4 k k2).2⟩
        have hE2 : Ex (τ3.1 29) (τ3.1 30) m1 m2 V2 := b6.cg fun k k1 k2 => ⟨(d4 k k2).1, (d4 k k2).2⟩
        have hE3 := Ex_bin hE1 hE2 (by omega) d5 hop
        refine ⟨τ3, i2, m2 + 1, u2, _, ?_, d2, (a3.tr (((Fr.rf cP τ).pi rfl).tr b3)).tr d3, fun k hk => ⟨(d4 k (by omega)).1.trans ((b4 k (by omega)).1.trans (a4 k hk).1), (d4 k (by omega)).2.trans ((b4 k (by omega)).2.trans (a4 k hk).2)⟩, by omega, hE3, fun f g z => ?_, fun z => b8 (a8 z), fun υ hM => ?_⟩
        · show fo_Pa_readRank kR kO (nI 2) (nI o) σ = _
          rw [hgo τ a1]
          refine hstep.trans ?_
          rw [b1, bindE, d1, bindE]
          exact L34_one (cf := 1998)
        · show jn _ _ _ = jn _ _ _
          rw [a7.up b8 f g z, b7 f g z]
        · obtain ⟨υ1, c1, c2, c3⟩ := a9 υ hM
          obtain ⟨υ2, g1, g2, g3⟩ := b9 _ (c2.adv (j := i1 + 1) (by omega))
          refine ⟨υ2, ?_, g2, (c3.pi rfl).tr g3⟩
          rw [hcm, c1, bindE]
          show Kc kone (V (υ.1 66)) υ1 = _
          rw [Kc2 hl c2 q1 q2, g1, bindE]
          show some (jn (nI (T i1)) (V (υ.1 66)) (V2 (υ1.1 66)), υ2) = _
          rw [e66 υ υ1 c3]
    · right
      refine ⟨τ, i1, m1, u1, V, ?_, a2, a3, a4, a5, a6, a7, a8, fun υ hM => ?_⟩
      · show fo_Pa_readRank kR kO (nI 2) (nI o) σ = _
        rw [hgo τ a1]
        exact L34_stop (cf := 1999) hl hT (by decide) a2 q
      · obtain ⟨υ1, c1, c2, c3⟩ := a9 υ hM
        refine ⟨υ1, ?_, c2, c3⟩
        rw [hcm, c1, bindE]
        exact Kc1 hl hT c2 q
theorem Ag.cg {len o : Nat} {T : Nat → Nat} {C C' : gS → Option gS} {X X' : gS → Option (Int32 × gS)} (h : Ag len T C X o) (hC : ∀ σ, C' σ = C σ) (hX : ∀ σ, X' σ = X σ) : Ag len T C' X' o := by
  have e1 : C' = C := funext hC
  have e2 : X' = X := funext hX
  rw [e1, e2]
  exact h
theorem Ranks {len o f : Nat} {T : Nat → Nat} {kone : gS → Option (Int32 × gS)} (hl : len ≤ 120) (hT : ∀ j, j < len → T j < 256) (h : Ag len T (fun σ => f_Pa_rr f false 0 (nI o) σ) kone o) : Ag len T (fun σ => f_Pa_rr (f + 6) true (nI 0) (nI o) σ) (fo_M_either kone) o := by
  have h5 : Ag len T (fun σ => f_Pa_rr (f + 1) true (nI 5) (nI o) σ) kone o := by
    refine h.cg (fun σ => ?_) (fun σ => rfl)
    show fo_Pa_readRank _ _ (nI 5) (nI o) σ = _
    unfold fo_Pa_readRank
    simp only [litE]
    rw [if_neg (show ¬ nI 5 < nI 5 by decide)]
    cases f_Pa_rr f false (nI 0) (nI o) σ <;> rfl
  have h4 := Chain (r := 4) (kR := fun v1 v2 σ => f_Pa_rr (f + 1) true v1 v2 σ) (kO := fun v1 σ => f_Pa_rr (f + 1) false 0 v1 σ) hl hT (by decide) (by decide) h5 (Tl4 hl hT)
  have h3 := Chain (r := 3) (kR := fun v1 v2 σ => f_Pa_rr (f + 2) true v1 v2 σ) (kO := fun v1 σ => f_Pa_rr (f + 2) false 0 v1 σ) (X := fo_M_product kone) hl hT (by decide) (by decide) (h4.cg (fun σ => rfl) (fun σ => by
    show fo_M_product kone σ = _
    unfold fo_M_product
    cases kone σ <;> rfl)) (Tl3 hl hT)
  have h2 := Chain2 (kone := kone) (kR := fun v1 v2 σ => f_Pa_rr (f + 3) true v1 v2 σ) (kO := fun v1 σ => f_Pa_rr (f + 3) false 0 v1 σ) hl hT (h3.cg (fun σ => rfl) (fun σ => rfl))
  have h1 := Chain (r := 1) (kR := fun v1 v2 σ => f_Pa_rr (f + 4) true v1 v2 σ) (kO := fun v1 σ => f_Pa_rr (f + 4) false 0 v1 σ) (X := fo_M_compared kone) hl hT (by decide) (by decide) (h2.cg (fun σ => rfl) (fun σ => rfl)) (Tl1 hl hT)
  have h0 := Chain (r := 0) (kR := fun v1 v2 σ => f_Pa_rr (f + 5) true v1 v2 σ) (kO := fun v1 σ => f_Pa_rr (f + 5) false 0 v1 σ) (X := fo_M_both kone) hl hT (by decide) (by decide) (h1.cg (fun σ => rfl) (fun σ => rfl)) (Tl0 hl hT)
  exact h0.cg (fun σ => rfl) (fun σ => rfl)
