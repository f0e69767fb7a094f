/-! pure: law -/
def cA (c k : Nat) : Bool := cP c k || (c == 27) && (k == 3) || (c == 59) && (k == 8 || k == 11 || k == 12 || k == 13 || k == 14 || k == 15)
def cB (c k : Nat) : Bool := cA c k || c == 7 || c == 8 || (c == 6) && (k == 4 || k == 5) || (c == 59) && (k == 10) || c == 65
theorem in02 {c k : Nat} (h : (cPeo c k || cLw c k || cChg c k || cLed c k || cPic c k || cWrd c k || cShv c k || ((c == 68) && (k == 0))) = false) : inT [0, 2] c k = true := by
  simp only [Bool.or_eq_false_iff] at h
  unfold inT comp
  simp only [h, Bool.false_eq_true, ↓reduceIte]
  cases cTap c k <;> rfl
theorem in023 {c k : Nat} (h : (cPeo c k || cChg c k || cLed c k || cPic c k || cWrd c k || cShv c k || ((c == 68) && (k == 0))) = false) : inT [0, 2, 3] c k = true := by
  simp only [Bool.or_eq_false_iff] at h
  unfold inT comp
  simp only [h, Bool.false_eq_true, ↓reduceIte]
  cases cTap c k <;> cases cLw c k <;> rfl
theorem cA_s (c k : Nat) (h : cA c k = true) : inT [0, 2] c k = true := by
  unfold cA cP at h
  simp only [Bool.or_eq_true, Bool.and_eq_true, beq_iff_eq] at h
  apply in02
  simp only [cPeo, cLw, cChg, cLed, cPic, cWrd, cShv, Bool.or_eq_false_iff, Bool.and_eq_false_iff, beq_eq_false_iff_ne, ne_eq, decide_eq_false_iff_not]
  omega
theorem cB_s (c k : Nat) (h : cB c k = true) : inT [0, 2, 3] c k = true := by
  unfold cB cA cP at h
  simp only [Bool.or_eq_true, Bool.and_eq_true, beq_iff_eq] at h
  apply in023
  simp only [cPeo, cChg, cLed, cPic, cWrd, cShv, Bool.or_eq_false_iff, Bool.and_eq_false_iff, beq_eq_false_iff_ne, ne_eq, decide_eq_false_iff_not]
  omega
theorem fr_in {S : Nat → Nat → Bool} {X : List Nat} {σ τ : gS} (h : Fr S σ τ) (hS : ∀ c k, S c k = true → inT X c k = true) : Fr (inT X) σ τ := h.sub fun c k q => by
  cases e : S c k with
  | false => rfl
  | true => rw [hS c k e] at q; cases q
theorem cP_A (c k : Nat) (h : cA c k = false) : cP c k = false := by
  unfold cA at h
  simp only [Bool.or_eq_false_iff] at h
  exact h.1.1
theorem cM_A (c k : Nat) (h : cA c k = false) : cM c k = false := by
  unfold cA at h
  unfold cM
  simp only [Bool.or_eq_false_iff, Bool.and_eq_false_iff, beq_eq_false_iff_ne, ne_eq] at h ⊢
  omega
theorem cA_B (c k : Nat) (h : cB c k = false) : cA c k = false := by
  unfold cB at h
  simp only [Bool.or_eq_false_iff] at h
  exact h.1.1.1.1.1
def w5 (v1 : Int32) (len : Nat) (σ : gS) : gS := gpi (gpi (gpi (gpi (gpi σ 59 11 v1) 59 12 (nI 0)) 59 13 (nI len)) 59 14 (-nI 1)) 59 15 (nI 0)
theorem Mwork (v1 : Int32) (len : Nat) (σ : gS) : f_M_workOut v1 (nI len) σ = f_M_workOut_L33 gfu (nI 0) (nI 0) (nI 1) (w5 v1 len σ) := by
  unfold f_M_workOut
  simp only [litE]
  rw [gupE, gupE, gupE, gupE, gupE]
  rfl
theorem w5_fr (v1 : Int32) (len : Nat) (σ : gS) : Fr (fun c k => (c == 59) && (k == 11 || k == 12 || k == 13 || k == 14 || k == 15)) σ (w5 v1 len σ) := (((((Fr.rf _ σ).pi rfl).pi rfl).pi rfl).pi rfl).pi rfl
theorem Mcopy {len : Nat} {T : Nat → Nat} {σ : gS} (hl : len ≤ 120) (h64 : ∀ j, j < len → σ.1 64 j = nI (T j)) : ∃ τ, f_M_law_L37 gfu (nI len) (nI 0) σ = some (nI 1, τ) ∧ (∀ j, j < len → τ.1 65 j = nI (T j)) ∧ τ.1 59 10 = nI len ∧ Fr (fun c k => (c == 59) && (k == 10) || c == 65) σ τ := by
  refine loopG (fun fu i a => f_M_law_L37 fu (nI len) (nI i) a) (fun o => ∃ τ, o = some (nI 1, τ) ∧ (∀ j, j < len → τ.1 65 j = nI (T j)) ∧ τ.1 59 10 = nI len ∧ Fr (fun c k => (c == 59) && (k == 10) || c == 65) σ τ) (fun i a => (∀ j, j < i → a.1 65 j = nI (T j)) ∧ Fr (fun c k => (c == 59) && (k == 10) || c == 65) σ a) len 0 σ (by omega) (by omega) ⟨fun j hj => absurd hj (Nat.not_lt_zero j), Fr.rf _ _⟩ ?_ ?_
  · rintro fu i a hi ⟨h1, h2⟩
    left
    refine ⟨gpi a 65 i (nI (T i)), ?_, fun j hj => ?_, h2.pi rfl⟩
    · rw [f_M_law_L37]
      simp only [litE]
      rw [if_neg (nI_ge hi (by omega)), if_pos (gix_nI (by omega) (by decide)), nI_clamp (by omega), if_pos (gix_nI (by omega) (by decide)), (h2.1 64 i rfl).trans (h64 i hi), gupE, nI_add]
    · rw [gpi_at]
      by_cases q : j = i
      · rw [if_pos ⟨rfl, q⟩, q]
      · rw [if_neg fun z => q z.2]
        exact h1 j (by omega)
  · rintro fu a ⟨h1, h2⟩
    refine ⟨gpi a 59 10 (nI len), ?_, h1, rfl, h2.pi rfl⟩
    rw [f_M_law_L37]
    simp only [litE]
    rw [if_pos (show nI len ≤ nI len from Int32.le_refl _), gupE]
theorem ag_law : Agr f_T_law f_M_law := by
  intro σ hR
  obtain ⟨n, K, E, P, B, F, W, D, m, hP, hT, hL, hC, hLe, hPi, hW, hS, h0⟩ := hR
  obtain ⟨len, hl, t1, t2, t3⟩ := id hT
  let T : Nat → Nat := fun j => (σ.1 28 j).toNatClampNeg
  have hT28 : ∀ j, j < len → T j < 256 ∧ σ.1 28 j = nI (T j) ∧ σ.1 64 j = nI (T j) := by
    intro j hj
    obtain ⟨b, hb, h28, h64⟩ := t3 j hj
    have e : T j = b := by
      show (σ.1 28 j).toNatClampNeg = b
      rw [h28, nI_clamp (by omega)]
    rw [e]
    exact ⟨hb, h28, h64⟩
  generalize T = T at hT28
  have hT8 : ∀ j, j < len → T j < 256 := fun j hj => (hT28 j hj).1
  have hB : CB len T σ := ⟨t1, fun j hj => (hT28 j hj).2.1⟩
  have tap0 : ∀ τ : gS, τ.1 27 3 = nI 0 → τ.1 59 8 = nI 0 → Tap τ := fun τ a b => ⟨0, by decide, a, b, fun i hi => absurd hi (Nat.not_lt_zero i)⟩
  have mt : ∀ τ : gS, (∀ j, j < len → τ.1 64 j = σ.1 64 j) → MT len T (w5 (-nI 1) len τ) 0 0 := fun τ h => ⟨⟨rfl, Or.inl ⟨rfl, fun j hj => (h j hj).trans (hT28 j hj).2.2⟩⟩, ⟨Nat.zero_le _, rfl⟩, rfl, rfl⟩
  have w5A : ∀ τ : gS, Fr cA τ (w5 (-nI 1) len τ) := fun τ => (((((Fr.rf cA τ).pi rfl).pi rfl).pi rfl).pi rfl).pi rfl
  rcases Reads hl hT8 hB with ⟨τ, k, a1, a2, a3, a4⟩ | ⟨τ, mm, u, Dl, a1, a2, a3, a4, a5, a6, a7⟩
  · have hk := a2.2.1.1
    have hj66 : f_Pa_readInto_j66 τ = some (nI k, gpi τ 27 3 (nI 0)) := by
      have e6 : (gpi τ 27 3 (nI 0)).1 27 6 = nI k := a2.2.1.2
      unfold f_Pa_readInto_j66
      simp only [litE]
      rw [gupE, e6, if_neg (m1_ne (by omega))]
    have hA1 : Fr cA σ (gpi τ 27 3 (nI 0)) := (a3.sub cP_A).pi rfl
    have e8 : (gpi τ 27 3 (nI 0)).1 59 8 = nI len := (a3.1 59 8 rfl).trans t2
    obtain ⟨x, υ, b1, b2, b3⟩ := a4 _ (mt (gpi τ 27 3 (nI 0)) fun j _ => a3.1 64 j rfl)
    have hA2 : Fr cA σ (gpi υ 59 8 (nI 0)) := ((hA1.tr (w5A _)).tr (b3.sub cM_A)).pi rfl
    have f1 : Fr (inT [0, 2]) σ (gpi υ 59 8 (nI 0)) := fr_in hA2 cA_s
    have e27 : (gpi υ 59 8 (nI 0)).1 27 3 = nI 0 := ((((Fr.rf (fun c k => (c == 59) && (k == 11 || k == 12 || k == 13 || k == 14 || k == 15)) _).tr (w5_fr (-nI 1) len (gpi τ 27 3 (nI 0)))).1 27 3 rfl) : _) |> (b3.1 27 3 rfl).trans
    refine ⟨-nI 100 - nI k, gpi τ 27 3 (nI 0), gpi υ 59 8 (nI 0), ?_, ?_, n, K, E, P, B, F, W, D, m, kPeo f1 rfl hP, tap0 _ e27 rfl, kLw f1 rfl hL, kChg f1 rfl hC, kLed f1 rfl hLe, kPic f1 rfl hPi, kWrd f1 rfl hW, kShv f1 rfl hS, k0 f1 rfl h0⟩
    · unfold f_T_law
      simp only [litE]
      rw [a1, hj66, bindE, if_pos (m1_lt (by omega))]
    · have e14 : (gpi υ 59 8 (nI 0)).1 59 14 = nI k := b2.2.2.2
      unfold f_M_law
      simp only [litE]
      rw [e8, Mwork, b1, bindE, gupE, e14, if_neg (show ¬ nI k < nI 0 by rw [not_lt0 k (by omega)]; exact id)]
  · have hm := a2.2.2.1
    have h6 := a2.2.2.2.1
    let s1 : gS := gpi (gpi (gsi (gsi (gpi τ 27 3 (nI 0)) 7 (va_cpy (τ.1 29) (τ.1 7) 0 0 mm)) 8 (va_cpy (τ.1 30) (τ.1 8) 0 0 mm)) 6 4 (nI mm)) 6 5 (bI u)
    have hj66 : f_Pa_readInto_j66 τ = some (-nI 1, s1) := by
      have hg : gcpy (nI 0) (nI 0) (nI mm) 128 128 = true := by
        unfold gcpy
        rw [nI_clamp (show 0 < 2 ^ 31 by decide), nI_clamp (show mm < 2 ^ 31 by omega)]
        have q0 : ¬ nI 0 < 0 := by decide
        have q1 : ¬ nI mm < 0 := nI_pos (by omega)
        simp only [q0, q1, decide_false, Bool.not_false, Bool.true_and, Bool.and_eq_true, decide_eq_true_eq]
        omega
      unfold f_Pa_readInto_j66
      simp only [litE]
      rw [gupE]
      have e6 : (gpi τ 27 3 (nI 0)).1 27 6 = -nI 1 := h6
      have e4 : (gpi τ 27 3 (nI 0)).1 27 4 = nI mm := hm.2
      rw [e6, if_pos rfl, e4, if_pos hg, gupE]
      have e4b : ∀ f, (gsi (gpi τ 27 3 (nI 0)) 7 f).1 27 4 = nI mm := fun f => hm.2
      have e4c : ∀ f g, (gsi (gsi (gpi τ 27 3 (nI 0)) 7 f) 8 g).1 27 4 = nI mm := fun f g => hm.2
      rw [e4b, if_pos hg, gupE, e4c, gupE]
      have e7 : ∀ f g, (gpi (gsi (gsi (gpi τ 27 3 (nI 0)) 7 f) 8 g) 6 4 (nI mm)).1 27 7 = bI u := fun f g => a2.2.2.2.2
      have e6c : ∀ f g, (gpi (gpi (gsi (gsi (gpi τ 27 3 (nI 0)) 7 f) 8 g) 6 4 (nI mm)) 6 5 (bI u)).1 27 6 = -nI 1 := fun f g => h6
      rw [e7, if_pos (bI_gzb u), gupE, e6c, nI_clamp (show 0 < 2 ^ 31 by decide), nI_clamp (show mm < 2 ^ 31 by omega)]
      rfl
    have hB1 : Fr cB σ s1 := ((((((a3.sub fun c k q => cP_A c k (cA_B c k q)).pi rfl).si fun k => rfl).si fun k => rfl).pi rfl).pi rfl)
    have e8 : s1.1 59 8 = nI len := (a3.1 59 8 rfl).trans t2
    obtain ⟨υ, b1, b2, b3⟩ := a7 _ (mt s1 fun j _ => a3.1 64 j rfl)
    have h64 : ∀ j, j < len → (gpi υ 59 8 (nI 0)).1 64 j = nI (T j) := fun j hj => ((b3.1 64 j rfl).trans (a3.1 64 j rfl)).trans (hT28 j hj).2.2
    obtain ⟨ω, c1, c2, c3, c4⟩ := Mcopy hl h64
    have hC1 : Fr cB s1 ω := (((((w5A s1).sub cA_B).tr (b3.sub fun c k q => cM_A c k (cA_B c k q))).pi (c := 59) (k := 8) (x := nI 0) rfl)).tr (c4.sub fun c k q => by
      unfold cB at q
      simp only [Bool.or_eq_false_iff] at q ⊢
      exact ⟨q.1.2, q.2⟩)
    have f1 : Fr (inT [0, 2, 3]) σ ω := fr_in (hB1.tr hC1) cB_s
    have sk : ∀ c k, (c == 59 || c == 65) = false → ω.1 c k = s1.1 c k := fun c k q => by
      have hq : (c == 59) = false ∧ (c == 65) = false := by simpa only [Bool.or_eq_false_iff] using q
      refine (c4.1 c k (by simp only [hq, Bool.false_and, Bool.or_self])).trans ?_
      show (gpi υ 59 8 (nI 0)).1 c k = _
      rw [gpi_at, if_neg (fun z => by rw [z.1] at hq; exact absurd hq.1 (by decide))]
      exact (b3.1 c k (by unfold cM; simp only [hq, Bool.false_and])).trans ((w5_fr (-nI 1) len s1).1 c k (by simp only [hq, Bool.false_and]))
    have hLw : Lw ω := by
      right
      refine ⟨fun f => A4 (Dl f), mm, len, ⟨a4, by omega, (sk 6 4 rfl).trans rfl⟩, ⟨hl, c3⟩, fun f g z => ?_, ?_, fun τ' q4 q7 q8 => ?_, fun τ' q65 => ?_⟩
      · show A4 (Dl f) = A4 (Dl g)
        rw [a6 f g fun i hi _ => z i hi]
      · have e5 : ω.1 6 5 = bI u := (sk 6 5 rfl).trans rfl
        cases u with
        | false =>
          refine Or.inl ⟨e5, fun f g z => ?_⟩
          show A4 (Dl f) = A4 (Dl g)
          rw [a6 f g fun i hi w => z i hi (w.resolve_right (by decide))]
        | true => exact Or.inr e5
      · have cp : ∀ k, k < mm → τ'.1 7 k = τ.1 29 k ∧ τ'.1 8 k = τ.1 30 k := by
          intro k hk
          have e7 : s1.1 7 k = τ.1 29 k := by
            show va_cpy (τ.1 29) (τ.1 7) 0 0 mm k = _
            rw [cpy0, if_pos hk]
          have e8 : s1.1 8 k = τ.1 30 k := by
            show va_cpy (τ.1 30) (τ.1 8) 0 0 mm k = _
            rw [cpy0, if_pos hk]
          exact ⟨(q7 k).trans ((sk 7 k rfl).trans e7), (q8 k).trans ((sk 8 k rfl).trans e8)⟩
        have q4' : τ'.1 6 4 = nI mm := q4.trans ((sk 6 4 rfl).trans rfl)
        obtain ⟨τ2, d1, d2, d3⟩ := a5.2 (gpi τ' 6 3 (nI 0)) mm (2000 - mm) (fun k _ k2 => cp k k2) q4' (Nat.le_refl _) (by omega) rfl
        have hval : f_Law_value τ' = f_Law_value_L7 (2000 - mm + (mm - 0)) (nI 0) (gpi τ' 6 3 (nI 0)) := by
          rw [show 2000 - mm + (mm - 0) = gfu by show _ = 2000; omega]
          unfold f_Law_value
          simp only [litE]
          rw [gupE]
        refine ⟨τ2, ?_, ((Fr.rf cV τ').pi rfl).tr d1⟩
        rw [hval]
        show _ = some (A4 (Dl (τ'.1 10)), τ2)
        have e10 : (gpi τ' 6 3 (nI 0)).1 10 = τ'.1 10 := rfl
        rw [e10] at d2 d3
        cases hD : Dl (τ'.1 10) with
        | some x => exact d3 x hD
        | none =>
          obtain ⟨f', g1, g2, g3⟩ := d2 hD
          obtain ⟨f2, rfl⟩ : ∃ f2, f' = f2 + 1 := ⟨f' - 1, by omega⟩
          rw [g2, f_Law_value_L7]
          simp only [litE]
          rw [show τ2.1 6 4 = nI mm from (d1.1 6 4 rfl).trans q4', if_pos (show nI mm ≤ nI mm from Int32.le_refl _)]
          rfl
      · have hM : MT len T (w5 (nI 0) len τ') 0 0 := ⟨⟨rfl, Or.inr ⟨rfl, fun j hj => (q65 j).trans (c2 j hj)⟩⟩, ⟨Nat.zero_le _, rfl⟩, rfl, rfl⟩
        obtain ⟨υ', g1, g2, g3⟩ := a7 _ hM
        refine ⟨υ', ?_, (w5_fr (nI 0) len τ').tr (g3.sub fun c k q => ?_)⟩
        · rw [Mwork, g1]
          rfl
        · unfold cM
          simp only [Bool.or_eq_false_iff, Bool.and_eq_false_iff, beq_eq_false_iff_ne, ne_eq] at q ⊢
          omega
    have e27 : ω.1 27 3 = nI 0 := (sk 27 3 rfl).trans rfl
    have e598 : ω.1 59 8 = nI 0 := (c4.1 59 8 rfl).trans rfl
    refine ⟨nI 1, s1, ω, ?_, ?_, n, K, E, P, B, F, W, D, m, kPeo f1 rfl hP, tap0 _ e27 e598, hLw, kChg f1 rfl hC, kLed f1 rfl hLe, kPic f1 rfl hPi, kWrd f1 rfl hW, kShv f1 rfl hS, k0 f1 rfl h0⟩
    · unfold f_T_law
      simp only [litE]
      rw [a1, hj66, bindE, if_neg (show ¬ nI 0 ≤ -nI 1 by decide)]
    · have e14 : (gpi υ 59 8 (nI 0)).1 59 14 = -nI 1 := b2.2.2.1
      have e8b : υ.1 59 8 = nI len := ((b3.1 59 8 rfl).trans ((w5_fr (-nI 1) len s1).1 59 8 rfl)).trans e8
      unfold f_M_law
      simp only [litE]
      rw [e8, Mwork, b1, bindE, gupE, e14, if_pos (show -nI 1 < nI 0 by decide), e8b]
      exact c1
