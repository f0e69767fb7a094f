/-! pure: a rank's loop on both sides -/
/-- the reference's loop behind a rank's first part -/
def Tl (len : Nat) (T : Nat → Nat) (r o : Nat) (X : gS → Option (Int32 × gS)) (L : Nat → Int32 → gS → Option (Int32 × gS)) : Prop :=
  (∀ fu acc υ i, MT len T υ i o → ¬ (i < len ∧ rkN (T i) = r) → L (fu + 1) acc υ = some (acc, υ)) ∧
  (∀ fu acc υ i, MT len T υ i o → i < len → rkN (T i) = r → L (fu + 1) acc υ = (X (gpi υ 59 12 (nI (i + 1)))).bind fun q => L fu (jn (nI (T i)) acc q.1) q.2) ∧
  (∀ fu acc υ k, MF len T υ k → L (fu + 1) acc υ = some (acc, υ))
theorem ChainL {len r o : Nat} {T : Nat → Nat} {X : gS → Option (Int32 × gS)} {L : Nat → Int32 → gS → Option (Int32 × gS)} {kR : Int32 → Int32 → gS → Option gS} {kO : Int32 → gS → Option gS} (hl : len ≤ 120) (hT : ∀ j, j < len → T j < 256) (hr : r < 5)
    (hC : Ag len T (fun σ => kR (nI (r + 1)) (nI o) σ) X o) (hL : Tl len T r o X L) (m0 : Nat) : ∀ t i m u V σ v4 cf, len - i ≤ t → v4 ≤ i → 122 ≤ cf + v4 → m0 < m → CP len T σ i m u → Ex (σ.1 29) (σ.1 30) m0 m V → Dp V u →
    (∃ τ k, f_Pa_readRank_L34 kR kO cf (nI r) (nI o) (nI 120) (nI v4) σ = some τ ∧ CF len T τ k ∧ Fr cP σ τ ∧ ∀ rf, t < rf → ∀ υ, MT len T υ i o → ∃ x υ', L rf (V (υ.1 66)) υ = some (x, υ') ∧ MF len T υ' k ∧ Fr cM υ υ') ∨
    (∃ τ i' m' u' V', f_Pa_readRank_L34 kR kO cf (nI r) (nI o) (nI 120) (nI v4) σ = some τ ∧ CP len T τ i' m' u' ∧ Fr cP σ τ ∧ Keep m σ τ ∧ (i ≤ i' ∧ m ≤ m' ∧ m' + i ≤ i' + m) ∧ Ex (τ.1 29) (τ.1 30) m0 m' V' ∧ Dp V' u' ∧ (u = true → u' = true) ∧ ∀ rf, t < rf → ∀ υ, MT len T υ i o → ∃ υ', L rf (V (υ.1 66)) υ = some (V' (υ.1 66), υ') ∧ MT len T υ' i' o ∧ Fr cM υ υ') := by
  obtain ⟨H1, H2, H3⟩ := hL
  intro t
  induction t with
  | zero =>
    intro i m u V σ v4 cf ht hv hcf hm hP hE hD
    have hn : ¬ (i < len ∧ rkN (T i) = r) := by omega
    obtain ⟨c', rfl⟩ : ∃ c', cf = c' + 1 := ⟨cf - 1, by have := hP.2.1.1; omega⟩
    right
    refine ⟨σ, i, m, u, V, L34_stop hl hT hr hP hn, hP, Fr.rf _ _, fun k hk => ⟨rfl, rfl⟩, ⟨Nat.le_refl _, Nat.le_refl _, by omega⟩, hE, hD, id, fun rf hrf υ hM => ⟨υ, ?_, hM, Fr.rf _ _⟩⟩
    obtain ⟨f', rfl⟩ : ∃ f', rf = f' + 1 := ⟨rf - 1, by omega⟩
    exact H1 f' _ υ i hM hn
  | succ t ih =>
    intro i m u V σ v4 cf ht hv hcf hm hP hE hD
    have hi := hP.2.1.1
    obtain ⟨c', rfl⟩ : ∃ c', cf = c' + 1 := ⟨cf - 1, by omega⟩
    by_cases q : i < len ∧ rkN (T i) = r
    · obtain ⟨q1, q2⟩ := q
      have hstep := L34_step (cf := c') (o := o) (lim := 120) (v4 := v4) (kR := kR) (kO := kO) hl hT hr hP (by omega) q1 q2
      have hP1 := hP.adv (j := i + 1) (by omega) (by omega)
      have hop := rk_op q2 hr
      rcases hC _ _ _ _ hP1 with ⟨τ, k, a1, a2, a3, a4⟩ | ⟨τ, i', m', u', V2, a1, a2, a3, a4, a5, a6, a7, a8, a9⟩
      · left
        have a1 : kR (nI (r + 1)) (nI o) (gpi σ 27 5 (nI (i + 1))) = some τ := a1
        obtain ⟨τ2, b1, b2, b3⟩ := CemitF (nI (T i)) (nI 0) a2
        obtain ⟨c2, rfl⟩ : ∃ c2, c' = c2 + 1 := ⟨c' - 1, by omega⟩
        refine ⟨τ2, k, ?_, b2, (((Fr.rf cP σ).pi rfl).tr a3).tr b3, fun rf hrf υ hM => ?_⟩
        · rw [hstep, a1, bindE, b1, bindE]
          exact L34_stopF hl b2
        · obtain ⟨f', rfl⟩ : ∃ f', rf = f' + 2 := ⟨rf - 2, by omega⟩
          obtain ⟨x, υ', c1, c2, c3⟩ := a4 _ (hM.adv (j := i + 1) (by omega))
          refine ⟨jn (nI (T i)) (V (υ.1 66)) x, υ', ?_, c2, ((Fr.rf cM υ).pi rfl).tr c3⟩
          rw [H2 (f' + 1) _ υ i hM q1 q2, c1, bindE]
          exact H3 f' _ υ' k c2
      · have a1 : kR (nI (r + 1)) (nI o) (gpi σ 27 5 (nI (i + 1))) = some τ := a1
        obtain ⟨τ2, b1, b2, b3, b4, b5, b6⟩ := a2.emit (nI (T i)) (nI 0) hl (by have := hP.2.2.1.1; omega)
        have hE1 : Ex (τ2.1 29) (τ2.1 30) m0 m V := hE.cg fun k k1 k2 => ⟨(b4 k (by omega)).1.trans (a4 k k2).1, (b4 k (by omega)).2.trans (a4 k k2).2⟩
        have hE2 : Ex (τ2.1 29) (τ2.1 30) m m' V2 := a6.cg fun k k1 k2 => ⟨(b4 k k2).1, (b4 k k2).2⟩
        have hE3 := Ex_bin hE1 hE2 hm b5 hop
        have hD3 : Dp (fun f => jn (nI (T i)) (V f) (V2 f)) u' := fun f g z => by
          show jn _ _ _ = jn _ _ _
          rw [hD.up a8 f g z, a7 f g z]
        have hFr : Fr cP σ τ2 := (((Fr.rf cP σ).pi rfl).tr a3).tr b3
        have hK : Keep m σ τ2 := fun k hk => ⟨(b4 k (by omega)).1.trans (a4 k hk).1, (b4 k (by omega)).2.trans (a4 k hk).2⟩
        have hgo := ih i' (m' + 1) u' _ τ2 (v4 + 1) c' (by omega) (by omega) (by omega) (by omega) b2 hE3 hD3
        have href : ∀ rf, t + 1 < rf → ∀ υ, MT len T υ i o → ∃ f' υ1, f' + 1 = rf ∧ t < f' ∧ MT len T υ1 i' o ∧ υ1.1 66 = υ.1 66 ∧ Fr cM υ υ1 ∧ L rf (V (υ.1 66)) υ = L f' (jn (nI (T i)) (V (υ1.1 66)) (V2 (υ1.1 66))) υ1 := by
          intro rf hrf υ hM
          obtain ⟨f', rfl⟩ : ∃ f', rf = f' + 1 := ⟨rf - 1, by omega⟩
          obtain ⟨υ1, c1, c2, c3⟩ := a9 _ (hM.adv (j := i + 1) (by omega))
          have hF1 := ((Fr.rf cM υ).pi (c := 59) (k := 12) (x := nI (i + 1)) rfl).tr c3
          have e66 : υ1.1 66 = υ.1 66 := by
            funext k
            exact hF1.1 66 k rfl
          refine ⟨f', υ1, rfl, by omega, c2, e66, hF1, ?_⟩
          rw [H2 f' _ υ i hM q1 q2, c1, bindE, e66]
          rfl
        rcases hgo with ⟨τ3, k, d1, d2, d3, d4⟩ | ⟨τ3, i3, m3, u3, V3, d1, d2, d3, d4, d5, d6, d7, d8, d9⟩
        · left
          refine ⟨τ3, k, ?_, d2, hFr.tr d3, fun rf hrf υ hM => ?_⟩
          · rw [hstep, a1, bindE, b1, bindE]
            exact d1
          · obtain ⟨f', υ1, e1, e2, e3, e4, e5, e6⟩ := href rf hrf υ hM
            obtain ⟨x, υ', g1, g2, g3⟩ := d4 f' e2 υ1 e3
            exact ⟨x, υ', e6.trans g1, g2, e5.tr g3⟩
        · right
          refine ⟨τ3, i3, m3, u3, V3, ?_, d2, hFr.tr d3, hK.tr d4 (by omega), by omega, d6, d7, fun z => d8 (a8 z), fun rf hrf υ hM => ?_⟩
          · rw [hstep, a1, bindE, b1, bindE]
            exact d1
          · obtain ⟨f', υ1, e1, e2, e3, e4, e5, e6⟩ := href rf hrf υ hM
            obtain ⟨υ', g1, g2, g3⟩ := d9 f' e2 υ1 e3
            exact ⟨υ', by rw [e6, g1, e4], g2, e5.tr g3⟩
    · right
      refine ⟨σ, i, m, u, V, L34_stop hl hT hr hP q, hP, Fr.rf _ _, fun k hk => ⟨rfl, rfl⟩, ⟨Nat.le_refl _, Nat.le_refl _, by omega⟩, hE, hD, id, fun rf hrf υ hM => ⟨υ, ?_, hM, Fr.rf _ _⟩⟩
      obtain ⟨f', rfl⟩ : ∃ f', rf = f' + 1 := ⟨rf - 1, by omega⟩
      exact H1 f' _ υ i hM q
theorem Chain {len r o : Nat} {T : Nat → Nat} {X : gS → Option (Int32 × gS)} {L : Nat → Int32 → gS → Option (Int32 × gS)} {kR : Int32 → Int32 → gS → Option gS} {kO : Int32 → gS → Option gS} (hl : len ≤ 120) (hT : ∀ j, j < len → T j < 256) (hr : r < 5) (hr2 : r ≠ 2)
    (hC : Ag len T (fun σ => kR (nI (r + 1)) (nI o) σ) X o) (hL : Tl len T r o X L) : Ag len T (fun σ => fo_Pa_readRank kR kO (nI r) (nI o) σ) (fun υ => (X υ).bind fun q => L gfu q.1 q.2) o := by
  intro σ i m u hP
  have hgo : ∀ τ, kR (nI (r + 1)) (nI o) σ = some τ → fo_Pa_readRank kR kO (nI r) (nI o) σ = f_Pa_readRank_L34 kR kO gfu (nI r) (nI o) (nI 120) (nI 0) τ := by
    intro τ e
    unfold fo_Pa_readRank
    simp only [litE]
    rw [if_pos (show nI r < nI 5 by rw [nI_ltI (by omega) (by omega)]; omega), nI_add, e, bindE, if_neg (show ¬ nI r = nI 2 by rw [nI_eq (by omega) (by omega)]; exact hr2)]
    rfl
  have hi := hP.2.1.1
  rcases hC σ i m u hP with ⟨τ, k, a1, a2, a3, a4⟩ | ⟨τ, i', m', u', V, a1, a2, a3, a4, a5, a6, a7, a8, a9⟩
  · left
    refine ⟨τ, k, ?_, a2, a3, fun υ hM => ?_⟩
    · show fo_Pa_readRank kR kO (nI r) (nI o) σ = some τ
      rw [hgo τ a1]
      exact L34_stopF (cf := 1999) hl a2
    · obtain ⟨x, υ', c1, c2, c3⟩ := a4 υ hM
      refine ⟨x, υ', ?_, c2, c3⟩
      show (X υ).bind _ = _
      rw [c1, bindE]
      exact hL.2.2 1999 x υ' k c2
  · have hi' := a2.2.1.1
    have e66 : ∀ υ υ' : gS, Fr cM υ υ' → υ'.1 66 = υ.1 66 := fun υ υ' hF => by
      funext k
      exact hF.1 66 k rfl
    rcases ChainL hl hT hr hC hL m 120 i' m' u' V τ 0 gfu (by omega) (by omega) (by decide) a5.2.1 a2 a6 a7 with ⟨τ3, k, d1, d2, d3, d4⟩ | ⟨τ3, i3, m3, u3, V3, d1, d2, d3, d4, d5, d6, d7, d8, d9⟩
    · left
      refine ⟨τ3, k, ?_, d2, a3.tr d3, fun υ hM => ?_⟩
      · show fo_Pa_readRank kR kO (nI r) (nI o) σ = _
        rw [hgo τ a1]
        exact d1
      · obtain ⟨υ1, c1, c2, c3⟩ := a9 υ hM
        obtain ⟨x, υ', g1, g2, g3⟩ := d4 gfu (by decide) υ1 c2
        rw [e66 υ υ1 c3] at g1
        refine ⟨x, υ', ?_, g2, c3.tr g3⟩
        show (X υ).bind _ = _
        rw [c1, bindE]
        exact g1
    · right
      refine ⟨τ3, i3, m3, u3, V3, ?_, d2, a3.tr d3, a4.tr d4 (by omega), by omega, d6, d7, fun z => d8 (a8 z), fun υ hM => ?_⟩
      · show fo_Pa_readRank kR kO (nI r) (nI o) σ = _
        rw [hgo τ a1]
        exact d1
      · obtain ⟨υ1, c1, c2, c3⟩ := a9 υ hM
        obtain ⟨υ', g1, g2, g3⟩ := d9 gfu (by decide) υ1 c2
        rw [e66 υ υ1 c3] at g1
        refine ⟨υ', ?_, g2, c3.tr g3⟩
        show (X υ).bind _ = _
        rw [c1, bindE]
        exact g1
