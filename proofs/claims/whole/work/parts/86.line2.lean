/-! pure: a line read on both sides -/
def CPl (len : Nat) (T : Nat → Nat) (σ : gS) (i m : Nat) (u : Bool) : Prop := CB len T σ ∧ (i ≤ len ∧ σ.1 27 5 = nI i) ∧ (m ≤ i + 1 ∧ σ.1 27 4 = nI m) ∧ σ.1 27 6 = -nI 1 ∧ σ.1 27 7 = bI u
theorem CP.emitL {len i m : Nat} {u : Bool} {T : Nat → Nat} {σ : gS} (hl : len ≤ 120) (h : CP len T σ i m u) : ∃ τ, f_Pa_readLine_j52 σ = some τ ∧ CPl len T τ i (m + 1) u ∧ Fr cP σ τ ∧ Keep m σ τ ∧ τ.1 29 m = nI 6 := by
  have hi := h.2.1.1
  have hm := h.2.2.1.1
  refine ⟨gpi (gpi (gpi σ 29 m (nI 6)) 30 m (nI 0)) 27 4 (nI (m + 1)), ?_, ⟨h.1.fr ((((Fr.rf cP σ).pi rfl).pi rfl).pi rfl), ⟨hi, h.2.1.2⟩, ⟨by omega, rfl⟩, h.2.2.2.1, h.2.2.2.2⟩, (((Fr.rf cP σ).pi rfl).pi rfl).pi rfl, fun k hk => ⟨?_, ?_⟩, ?_⟩
  · unfold f_Pa_readLine_j52
    simp only [litE]
    rw [Cemit (nI 6) (nI 0) (by omega) h.2.2.1.2, bindE]
  · show (gpi σ 29 m (nI 6)).1 29 k = _
    rw [gpi_at, if_neg (by omega)]
  · show (gpi (gpi σ 29 m (nI 6)) 30 m (nI 0)).1 30 k = _
    rw [gpi_at, if_neg (by omega)]
    rfl
  · show (gpi σ 29 m (nI 6)).1 29 m = _
    rw [gpi_at, if_pos ⟨rfl, rfl⟩]
theorem C52F {len k : Nat} {T : Nat → Nat} {σ : gS} (h : CF len T σ k) : ∃ τ, f_Pa_readLine_j52 σ = some τ ∧ CF len T τ k ∧ Fr cP σ τ := by
  obtain ⟨τ, a1, a2, a3⟩ := CemitF (nI 6) (nI 0) h
  refine ⟨τ, ?_, a2, a3⟩
  unfold f_Pa_readLine_j52
  simp only [litE]
  rw [a1, bindE]
def A3 (a : Option Int32) : Int32 := if a.isSome = true then nI 1 else nI 0
def A4 (a : Option Int32) : Int32 := a.getD (nI 0)
theorem M74 {len i o : Nat} {T : Nat → Nat} {υ : gS} {k : Int32 → Int32 → Int32 → gS → Option (Int32 × gS)} {a : Option Int32} {v6 v7 : Int32} (hM : MT len T υ i o) : f_M_workOut_j74 k (A3 a) (A4 a) v6 v7 υ = f_M_workOut_j96 k (A3 (a.orElse fun _ => if v7 = nI 0 then none else some v6)) (A4 (a.orElse fun _ => if v7 = nI 0 then none else some v6)) υ := by
  unfold f_M_workOut_j74
  simp only [litE]
  rw [if_neg (Mpos14 hM)]
  by_cases z : v7 = nI 0
  · rw [if_pos z, if_pos z]
    cases a <;> rfl
  · rw [if_neg z, if_neg z]
    cases a with
    | none => rw [if_pos (show A3 none = nI 0 from rfl)]; rfl
    | some x => rw [if_neg (show ¬ A3 (some x) = nI 0 by show ¬ nI 1 = nI 0; decide)]; rfl
theorem M96F {len k n : Nat} {T : Nat → Nat} {υ : gS} {v3 v4 : Int32} (hl : len ≤ 120) (hM : MF len T υ k) : f_M_workOut_j96 (fun v3 v4 v5 σ => f_M_workOut_L33 (n + 1) v3 v4 v5 σ) v3 v4 υ = some (v4, υ) := by
  unfold f_M_workOut_j96
  simp only [litE]
  rw [MtakesF _ hl hM, bindE]
  show f_M_workOut_L33 (n + 1) v3 v4 (nI 0) υ = _
  rw [f_M_workOut_L33]
  simp only [litE]
  rw [if_pos trivial, if_pos (Mneg14 hl hM)]
theorem M74F {len k n : Nat} {T : Nat → Nat} {υ : gS} {v3 v4 v6 v7 : Int32} (hl : len ≤ 120) (hM : MF len T υ k) : f_M_workOut_j74 (fun v3 v4 v5 σ => f_M_workOut_L33 (n + 1) v3 v4 v5 σ) v3 v4 v6 v7 υ = some (v4, υ) := by
  unfold f_M_workOut_j74
  simp only [litE]
  rw [if_pos (Mneg14 hl hM), M96F hl hM]
theorem ML33 {n : Nat} {v3 v4 : Int32} {υ : gS} : f_M_workOut_L33 (n + 1) v3 v4 (nI 1) υ = (f_M_either υ).bind fun q10 => (f_M_takes (nI 63) q10.2).bind fun q11 => if q11.1 = nI 0 then f_M_workOut_j74 (fun v3 v4 v5 σ => f_M_workOut_L33 n v3 v4 v5 σ) v3 v4 q10.1 (nI 1) q11.2 else (f_M_either q11.2).bind fun q18 => f_M_workOut_j74 (fun v3 v4 v5 σ => f_M_workOut_L33 n v3 v4 v5 σ) v3 v4 q18.1 (if q10.1 = nI 0 then nI 0 else nI 1) q18.2 := by
  rw [f_M_workOut_L33]
  simp only [litE]
  rw [if_neg (show ¬ nI 1 = nI 0 by decide)]
  unfold f_M_workOut_j66
  congr 1
  funext q10
  congr 1
  funext q11
  by_cases z : q10.1 = nI 0
  · rw [if_pos z, if_pos z]
  · rw [if_neg z, if_neg z]
theorem Line {len : Nat} {T : Nat → Nat} (hl : len ≤ 120) (hT : ∀ j, j < len → T j < 256) (σ : gS) (i m : Nat) (u : Bool) (hP : CP len T σ i m u) :
    (∃ τ k, f_Pa_readLine σ = some τ ∧ CF len T τ k ∧ Fr cP σ τ ∧ ∀ υ v3 v4 n, MT len T υ i 0 → ∃ x υ', f_M_workOut_L33 (n + 2) v3 v4 (nI 1) υ = some (x, υ') ∧ MF len T υ' k ∧ Fr cM υ υ') ∨
    (∃ τ i' m' u' D, f_Pa_readLine σ = some τ ∧ CPl len T τ i' m' u' ∧ Fr cP σ τ ∧ Keep m σ τ ∧ (i < i' ∧ m < m') ∧ LEx (τ.1 29) (τ.1 30) m m' D ∧ (∀ f g : Nat → Int32, (∀ i, i < 6 → (i ≠ 4 ∨ u' = true) → f i = g i) → D f = D g) ∧ (u = true → u' = true) ∧
      ∀ υ a n, MT len T υ i 0 → ∃ υ', f_M_workOut_L33 (n + 1) (A3 a) (A4 a) (nI 1) υ = f_M_workOut_j96 (fun v3 v4 v5 σ => f_M_workOut_L33 n v3 v4 v5 σ) (A3 (a.orElse fun _ => D (υ.1 66))) (A4 (a.orElse fun _ => D (υ.1 66))) υ' ∧ MT len T υ' i' 0 ∧ Fr cM υ υ') := by
  have hmi := hP.2.2.1.1
  have hi := hP.2.1.1
  have e66 : ∀ υ υ' : gS, Fr cM υ υ' → υ'.1 66 = υ.1 66 := fun υ υ' hF => by
    funext k
    exact hF.1 66 k rfl
  have hrl : ∀ s1, f_Pa_readRank 60 (nI 0) (nI 0) σ = some s1 → f_Pa_readLine σ = (f_Pa_meets (nI 63) s1).bind fun q2 => if q2.1 = nI 0 then f_Pa_readLine_j52 q2.2 else (f_Pa_emit (nI 5) (nI 0) q2.2).bind fun s5 => (f_Pa_readRank 60 (nI 0) (nI 0) s5).bind fun s6 => (f_T_within (q2.2.1 27 4) (nI 128)).bind fun q7 => if q7 = nI 0 then f_Pa_readLine_j52 s6 else if gix (q2.2.1 27 4) 128 then gup (gpi s6 30 (q2.2.1 27 4).toNatClampNeg (s6.1 27 4)) fun s10 => f_Pa_readLine_j52 s10 else none := by
    intro s1 e
    unfold f_Pa_readLine
    simp only [litE]
    rw [e, bindE]
  rcases Expr hl hT σ i m u hP with ⟨τ, k, a1, a2, a3, a4⟩ | ⟨τ, i1, m1, u1, V, a1, a2, a3, a4, a5, a6, a7, a8, a9⟩
  · left
    obtain ⟨τ2, b1, b2, b3⟩ := C52F a2
    refine ⟨τ2, k, ?_, b2, a3.tr b3, fun υ v3 v4 n hM => ?_⟩
    · rw [hrl τ a1, CmeetsF _ hl a2, bindE, if_pos rfl, b1]
    · obtain ⟨x, υ', c1, c2, c3⟩ := a4 υ hM
      refine ⟨v4, υ', ?_, c2, c3⟩
      rw [ML33, c1, bindE, MtakesF _ hl c2, bindE, if_pos rfl]
      exact M74F hl c2
  · have hi1 := a2.2.1.1
    have hm1 := a2.2.2.1.1
    rcases Cmeets (c := 63) hl hT (by decide) a2 with ⟨q1, q2, q3⟩ | ⟨q1, q3⟩
    · have hP1 := a2.adv (j := i1 + 1) (by omega) q1
      obtain ⟨τ2, b1, b2, b3, b4, b5, b6⟩ := hP1.emit (nI 5) (nI 0) hl (by omega)
      have hb4 : ∀ k, k < m1 → τ2.1 29 k = τ.1 29 k ∧ τ2.1 30 k = τ.1 30 k := fun k hk => b4 k hk
      have hF2 : Fr cP σ τ2 := (a3.pi rfl).tr b3
      have e4 : (gpi τ 27 5 (nI (i1 + 1))).1 27 4 = nI m1 := a2.2.2.1.2
      have hw : f_T_within (nI m1) (nI 128) = some (bI true) := by
        rw [within_eq _ (by decide), inb_nI (by omega), decide_eq_true (show m1 < 128 by omega)]
      have hrl2 : ∀ s6, f_Pa_readRank 60 (nI 0) (nI 0) τ2 = some s6 → f_Pa_readLine σ = f_Pa_readLine_j52 (gpi s6 30 m1 (s6.1 27 4)) := by
        intro s6 e
        rw [hrl τ a1, q3, bindE, if_neg (show ¬ nI 1 = nI 0 by decide), b1, bindE, e, bindE, e4, hw, bindE, if_neg (show ¬ bI true = nI 0 by decide), if_pos (gix_nI (by omega) (by decide)), nI_clamp (by omega), gupE]
      rcases Expr hl hT τ2 (i1 + 1) (m1 + 1) u1 b2 with ⟨τ3, k, d1, d2, d3, d4⟩ | ⟨τ3, i2, m2, u2, V2, d1, d2, d3, d4, d5, d6, d7, d8, d9⟩
      · left
        have d2' : CF len T (gpi τ3 30 m1 (τ3.1 27 4)) k := ⟨d2.1.fr ((Fr.rf cP τ3).pi rfl), d2.2.1, d2.2.2.1, d2.2.2.2.1, d2.2.2.2.2⟩
        obtain ⟨τ4, f1, f2, f3⟩ := C52F d2'
        refine ⟨τ4, k, (hrl2 τ3 d1).trans f1, f2, ((hF2.tr d3).pi rfl).tr f3, fun υ v3 v4 n hM => ?_⟩
        obtain ⟨υ1, c1, c2, c3⟩ := a9 υ hM
        obtain ⟨x, υ2, g1, g2, g3⟩ := d4 _ (c2.adv (j := i1 + 1) q1)
        refine ⟨v4, υ2, ?_, g2, (c3.pi rfl).tr g3⟩
        rw [ML33, c1, bindE, (Mtakes hl hT (by decide) c2).1 ⟨q1, q2⟩, bindE, if_neg (show ¬ nI 1 = nI 0 by decide), g1, bindE]
        exact M74F hl g2
      · right
        have d2' : CP len T (gpi τ3 30 m1 (τ3.1 27 4)) i2 m2 u2 := ⟨d2.1.fr ((Fr.rf cP τ3).pi rfl), d2.2.1, d2.2.2.1, d2.2.2.2.1, d2.2.2.2.2⟩
        have em : τ3.1 27 4 = nI m2 := d2.2.2.1.2
        obtain ⟨τ4, f1, f2, f3, f4, f5⟩ := d2'.emitL hl
        have h29 : ∀ k, k < m2 → τ4.1 29 k = τ3.1 29 k := fun k hk => (f4 k hk).1
        have h30 : ∀ k, k < m2 → k ≠ m1 → τ4.1 30 k = τ3.1 30 k := fun k hk hk1 => by
          rw [(f4 k hk).2, gpi_at, if_neg fun z => hk1 z.2]
        have h30b : τ4.1 30 m1 = nI m2 := by
          rw [(f4 m1 (by omega)).2, gpi_at, if_pos ⟨rfl, rfl⟩, em]
        have h29b : τ4.1 29 m1 = nI 5 := by
          rw [h29 m1 (by omega), (d4 m1 (by omega)).1, b5]
        have hE1 : Ex (τ4.1 29) (τ4.1 30) m m1 V := a6.cg fun k k1 k2 => ⟨(h29 k (by omega)).trans ((d4 k (by omega)).1.trans (hb4 k k2).1), (h30 k (by omega) (by omega)).trans ((d4 k (by omega)).2.trans (hb4 k k2).2)⟩
        have hE2 : Ex (τ4.1 29) (τ4.1 30) (m1 + 1) m2 V2 := d6.cg fun k k1 k2 => ⟨h29 k k2, h30 k k2 (by omega)⟩
        have hLE := LEx_when hE1 h29b h30b hE2 f5
        refine ⟨τ4, i2, m2 + 1, u2, _, (hrl2 τ3 d1).trans f1, f2, ((hF2.tr d3).pi rfl).tr f3, fun k hk => ⟨?_, ?_⟩, by omega, hLE, fun f g z => ?_, fun z => d8 (a8 z), fun υ a n hM => ?_⟩
        · exact (h29 k (by omega)).trans ((d4 k (by omega)).1.trans ((hb4 k (by omega)).1.trans (a4 k hk).1))
        · exact (h30 k (by omega) (by omega)).trans ((d4 k (by omega)).2.trans ((hb4 k (by omega)).2.trans (a4 k hk).2))
        · show (if V f = nI 0 then none else some (V2 f)) = (if V g = nI 0 then none else some (V2 g))
          rw [a7.up d8 f g z, d7 f g z]
        · obtain ⟨υ1, c1, c2, c3⟩ := a9 υ hM
          obtain ⟨υ2, g1, g2, g3⟩ := d9 _ (c2.adv (j := i1 + 1) q1)
          have ev : (gpi υ1 59 12 (nI (i1 + 1))).1 66 = υ.1 66 := e66 υ1 _ ((Fr.rf cM υ1).pi rfl) |>.trans (e66 υ υ1 c3)
          rw [ev] at g1
          refine ⟨υ2, ?_, g2, (c3.pi rfl).tr g3⟩
          rw [ML33, c1, bindE, (Mtakes hl hT (by decide) c2).1 ⟨q1, q2⟩, bindE, if_neg (show ¬ nI 1 = nI 0 by decide), g1, bindE]
          refine (M74 g2).trans ?_
          by_cases z : V (υ.1 66) = nI 0
          · rw [if_pos z, if_pos rfl]
            show _ = f_M_workOut_j96 _ (A3 (a.orElse fun _ => if V (υ.1 66) = nI 0 then none else some (V2 (υ.1 66)))) (A4 (a.orElse fun _ => if V (υ.1 66) = nI 0 then none else some (V2 (υ.1 66)))) υ2
            rw [if_pos z]
          · rw [if_neg z, if_neg (show ¬ nI 1 = nI 0 by decide)]
            show _ = f_M_workOut_j96 _ (A3 (a.orElse fun _ => if V (υ.1 66) = nI 0 then none else some (V2 (υ.1 66)))) (A4 (a.orElse fun _ => if V (υ.1 66) = nI 0 then none else some (V2 (υ.1 66)))) υ2
            rw [if_neg z]
    · right
      obtain ⟨τ2, b1, b2, b3, b4, b5⟩ := a2.emitL hl
      have hE : Ex (τ2.1 29) (τ2.1 30) m m1 V := a6.cg fun k k1 k2 => b4 k k2
      refine ⟨τ2, i1, m1 + 1, u1, _, ?_, b2, a3.tr b3, fun k hk => ⟨(b4 k (by omega)).1.trans (a4 k hk).1, (b4 k (by omega)).2.trans (a4 k hk).2⟩, by omega, LEx_say hE b5, fun f g z => congrArg some (a7 f g z), a8, fun υ a n hM => ?_⟩
      · rw [hrl τ a1, q3, bindE, if_pos rfl, b1]
      · obtain ⟨υ1, c1, c2, c3⟩ := a9 υ hM
        refine ⟨υ1, ?_, c2, c3⟩
        rw [ML33, c1, bindE, (Mtakes hl hT (by decide) c2).2 q1, bindE, if_pos rfl]
        exact (M74 c2).trans rfl
