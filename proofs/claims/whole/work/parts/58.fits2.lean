/-! pure: fits agrees -/
theorem lowest_L {f : Nat} (hf : f < 8192) (h0 : f ≠ 0) : ∃ i, f_T_lowestOf (nI f) = some (nI i) ∧ i < 13 ∧ f.testBit i = true ∧ ∀ j, j < i → f.testBit j = false := by
  unfold f_T_lowestOf
  simp only [litE]
  refine loopG (fun fu i (_ : Nat) => f_T_lowestOf_L2 fu (nI f) (nI i)) (fun o => ∃ i, o = some (nI i) ∧ i < 13 ∧ f.testBit i = true ∧ ∀ j, j < i → f.testBit j = false) (fun i _ => ∀ j, j < i → f.testBit j = false) 13 0 0 (by omega) (by omega) (fun j h => absurd h (Nat.not_lt_zero j)) ?_ ?_
  · intro fu i a hi hp
    have q1 : ¬ 32 ≤ i := by omega
    cases t : f.testBit i with
    | true =>
      right
      refine ⟨i, ?_, hi, t, hp⟩
      simp (maxSteps := 2000000) (disch := omega) only [f_T_lowestOf_L2, gupE, gltE, gllE, litE, litLE, bindE, ↓reduceIte, gsi_at, gsi_l2, gsl_at, gsl_i1, upd_at, updL_at, Nat.reduceEqDiff, gix_nI, nI_clamp, bI_0, bI_gzb, Bool.true_eq_false, Bool.false_eq_true, nI_leI, q1, has_eq, t]
    | false =>
      left
      refine ⟨0, ?_, fun j hj => ?_⟩
      · simp (maxSteps := 2000000) (disch := omega) only [f_T_lowestOf_L2, gupE, gltE, gllE, litE, litLE, bindE, ↓reduceIte, gsi_at, gsi_l2, gsl_at, gsl_i1, upd_at, updL_at, Nat.reduceEqDiff, gix_nI, nI_clamp, bI_0, bI_gzb, Bool.true_eq_false, Bool.false_eq_true, nI_leI, q1, has_eq, t, nI_add]
      · by_cases e : j = i
        · rw [e]; exact t
        · exact hp j (by omega)
  · intro fu a hp
    exfalso
    obtain ⟨w, hw⟩ := nz_iff.mp h0
    by_cases h : w < 13
    · rw [hp w h] at hw
      cases hw
    · have : f.testBit w = false := Nat.testBit_lt_two_pow (Nat.lt_of_lt_of_le hf (Nat.pow_le_pow_right (by decide) (show 13 ≤ w by omega) : 2 ^ 13 ≤ 2 ^ w))
      rw [this] at hw
      cases hw
theorem Tfitting {σ : gS} {n : Nat} {K E P : Nat → Nat} {B : Nat → Int32} {F W D m : Nat} {V : VT} (h : Ctx σ n K E P B F W D m V) {a b z y q t c : Nat} {x u : Nat → Int64} (ha : a < 6) (hb : b < 6) (hB : BRow σ a z x) (hB2 : BRow σ b y u) (ht : t < 3) (hc : c < n) (hq : q ≤ 40) (h1 : ∀ i, i < q → bval x z 6 i) (h2 : q = 40 ∨ ¬ bval x z 6 q) {hs : Nat → Nat → Nat} (hhs : ∀ v, v < trd t → ∀ i, i < q → Bits (hs v i) (Hp n (sy V (vK t K c v) (vE t E c v) P B (bv x i) (min 99 (D + i))) (vK t K c v) W (fun _ => True))) :
    ∃ f τ, f_T_fitting (47 + 2 * a) (47 + 2 * b) (nI c) (if t = 2 then nI 1 else nI 0) σ = some (nI f, τ) ∧ Frs σ τ ∧ Bits f (fun v => v < trd t ∧ Ft q y hs u v) := by
  have hdo := TdaysOn hB hq h1 h2
  have htr := trd_le t
  have hy := hB2.1
  have pw : 2 ^ trd t < 16384 := Nat.lt_of_le_of_lt (Nat.pow_le_pow_right (by decide) htr) (by decide)
  have pp : 0 < 2 ^ trd t := Nat.two_pow_pos _
  have start : f_T_fitting (47 + 2 * a) (47 + 2 * b) (nI c) (if t = 2 then nI 1 else nI 0) σ = f_T_fitting_L31 (47 + 2 * a) (47 + 2 * b) gfu (nI c) (if t = 2 then nI 1 else nI 0) (nI (trd t)) (nI (2 ^ trd t - 1)) (nI q) (nI 0) σ := by
    have hj : ∀ k, k < 14 → f_T_fitting_j12 (47 + 2 * a) (47 + 2 * b) (nI c) (if t = 2 then nI 1 else nI 0) (nI k) σ = f_T_fitting_L31 (47 + 2 * a) (47 + 2 * b) gfu (nI c) (if t = 2 then nI 1 else nI 0) (nI k) (nI (2 ^ k - 1)) (nI q) (nI 0) σ := by
      intro k hk
      have pp : 0 < 2 ^ k := Nat.two_pow_pos _
      unfold f_T_fitting_j12
      generalize f_T_fitting_L31 (47 + 2 * a) (47 + 2 * b) gfu = G
      simp (disch := omega) only [gltE, litE, hdo, bindE, sh1, pk_sub]
    unfold f_T_fitting trd
    by_cases t2 : t = 2
    · rw [if_pos t2, if_pos t2, if_neg (show ¬ nI 1 = 0 by decide)]
      have := hj 8 (by omega)
      rw [if_pos t2] at this
      exact this
    · rw [if_neg t2, if_neg t2, if_pos (show nI 0 = 0 from rfl)]
      have := hj 13 (by omega)
      rw [if_neg t2] at this
      exact this
  rw [start]
  refine loopG (fun fu i (p : Nat × gS) => f_T_fitting_L31 (47 + 2 * a) (47 + 2 * b) fu (nI c) (if t = 2 then nI 1 else nI 0) (nI (trd t)) (nI p.1) (nI q) (nI i) p.2) (fun o => ∃ f τ, o = some (nI f, τ) ∧ Frs σ τ ∧ Bits f (fun v => v < trd t ∧ Ft q y hs u v)) (fun i p => Frs σ p.2 ∧ Bits p.1 (fun v => v < trd t ∧ ∀ j, j < i → As q (hs v) u j)) y 0 (2 ^ trd t - 1, σ) (by omega) (by omega) ⟨Fr.rf _ _, fun v => ⟨fun k => ⟨tb_full.mp k, fun j hj => absurd hj (Nat.not_lt_zero j)⟩, fun k => tb_full.mpr k.1⟩⟩ ?_ ?_
  · rintro fu i ⟨f, s⟩ hi ⟨hF, hf⟩
    simp only at hF hf
    have hC := h.fr hF
    have hBa := hB.fr ha hF
    have hBb := hB2.fr hb hF
    have g1 : ¬ y ≤ i := by omega
    have hf13 : f < 8192 := hf.lt (k := 13) fun v hv => by omega
    by_cases f0 : f = 0
    · right
      refine ⟨f, s, ?_, hF, fun v => ?_⟩
      · subst f0
        simp (maxSteps := 2000000) (disch := omega) only [f_T_fitting_L31, gupE, gltE, gllE, litE, litLE, bindE, ↓reduceIte, gsi_at, gsi_l2, gsl_at, gsl_i1, upd_at, updL_at, Nat.reduceEqDiff, gix_nI, nI_clamp, bI_0, bI_gzb, Bool.true_eq_false, Bool.false_eq_true, hBb.2.1, nI_leI, g1]
      · constructor
        · intro k
          rw [f0] at k
          simp at k
        · rintro ⟨k1, k2⟩
          exact (hf v).mpr ⟨k1, fun j hj => k2 j (by omega)⟩
    · have f0' : ¬ nI f = nI 0 := by rw [nI_eq (by omega) (by omega)]; exact f0
      by_cases hiq : i < q
      · left
        have hD : D < 100 := h.1.2.2.2.2.1
        obtain ⟨b1, b2, b3, b4⟩ := bval.v hBa (h1 i hiq)
        obtain ⟨s1, e1, e2, e3⟩ := Cgather (Or.inl rfl) hC.1 hC.2.1 (w := bv x i) (d := min 99 (D + i)) b2 (by omega)
        have F1 : Frs s s1 := fr_no e3 (cGa_s (Or.inl rfl))
        have hX : CSx s1 n (sy V K E P B (bv x i) (min 99 (D + i))) K W c := ⟨e2.1, fun j hj _ => e2.2 j hj⟩
        obtain ⟨f', τ, g2, g3, g4⟩ := Tfit_in h ha hb hB hB2 ht hc hiq hi h1 hhs s1 (hF.tr F1) hX hf (fun v3 v4 v5 v6 v7 v8 σ => f_T_fitting_L31 (47 + 2 * a) (47 + 2 * b) fu v3 v4 v5 v6 v7 v8 σ)
        have hday : f_T_dayBehind (nI i) s = some (nI (min 99 (D + i))) := by
          unfold f_T_dayBehind
          rw [hC.1.2.2.2.2.2.1, nI_add]
          exact congrArg some (gmin_nI (a := 99) (by omega) (by omega))
        have sm1 := small_eq hBa (show i < 1000 by omega)
        rw [b1] at sm1
        refine ⟨(f', τ), ?_, g3, g4⟩
        show f_T_fitting_L31 (47 + 2 * a) (47 + 2 * b) (fu + 1) (nI c) (if t = 2 then nI 1 else nI 0) (nI (trd t)) (nI f) (nI q) (nI i) s = f_T_fitting_L31 (47 + 2 * a) (47 + 2 * b) fu (nI c) (if t = 2 then nI 1 else nI 0) (nI (trd t)) (nI f') (nI q) (nI (i + 1)) τ
        rw [← g2]
        simp (maxSteps := 2000000) (disch := omega) only [f_T_fitting_L31, gupE, gltE, gllE, litE, litLE, bindE, ↓reduceIte, gsi_at, gsi_l2, gsl_at, gsl_i1, upd_at, updL_at, Nat.reduceEqDiff, gix_nI, nI_clamp, bI_0, bI_gzb, Bool.true_eq_false, Bool.false_eq_true, hBb.2.1, nI_leI, g1, f0', nI_ltI, hiq, hday, sm1, e1]
      · right
        refine ⟨0, s, ?_, hF, fun v => ?_⟩
        · simp (maxSteps := 2000000) (disch := omega) only [f_T_fitting_L31, gupE, gltE, gllE, litE, litLE, bindE, ↓reduceIte, gsi_at, gsi_l2, gsl_at, gsl_i1, upd_at, updL_at, Nat.reduceEqDiff, gix_nI, nI_clamp, bI_0, bI_gzb, Bool.true_eq_false, Bool.false_eq_true, hBb.2.1, nI_leI, g1, f0', nI_ltI, hiq]
        · constructor
          · intro k
            simp at k
          · rintro ⟨k1, k2⟩
            exact absurd (k2 i hi).1 hiq
  · rintro fu ⟨f, s⟩ ⟨hF, hf⟩
    simp only at hF hf
    have hBb := hB2.fr hb hF
    have g1 : nI y ≤ nI y := Int32.le_refl _
    refine ⟨f, s, ?_, hF, hf⟩
    simp (maxSteps := 2000000) (disch := omega) only [f_T_fitting_L31, gupE, gltE, gllE, litE, litLE, bindE, ↓reduceIte, gsi_at, gsi_l2, gsl_at, gsl_i1, upd_at, updL_at, Nat.reduceEqDiff, gix_nI, nI_clamp, bI_0, bI_gzb, Bool.true_eq_false, Bool.false_eq_true, hBb.2.1, g1]
def wh (t c : Nat) : Nat := if t = 2 then c else 10 + c
def cFt (w c k : Nat) : Bool := cSy c k || (c == 60) && (k == w)
theorem Mfits_L {σ : gS} {n : Nat} {K E P : Nat → Nat} {B : Nat → Int32} {F W D : Nat} {V : VT} (h : CtM σ n K E P B F W D V) {a b z y q t c : Nat} {x u : Nat → Int64} {v : Int32} (hqv : v / nI 10 = nI a) (hrv : grem v (nI 10) = nI b) (ha : a < 6) (hb : b < 6) (hB : MRow σ a z x) (hB2 : MRow σ b y u) (ht : t < 3) (hc : c < n) (hq : q ≤ 40) (h1 : ∀ i, i < q → bval x z 6 i) (h2 : q = 40 ∨ ¬ bval x z 6 q) {hs : Nat → Nat → Nat} (hhs : ∀ v, v < trd t → ∀ i, i < q → Bits (hs v i) (Hp n (sy V (vK t K c v) (vE t E c v) P B (bv x i) (min 99 (D + i))) (vK t K c v) W (fun _ => True))) :
    ∃ (set : Nat) (first : Int32) (τ : gS), f_M_fits_L83 gfu v (nI t) (nI (wh t c)) (σ.1 60 (wh t c)) (nI 0) (-nI 2) (nI 0) (nI 0) σ = some (if t = 0 then nI (cnt set 13) else if t = 1 then first else nI set, τ) ∧ Fr cSy σ τ ∧ Bits set (fun v => v < trd t ∧ Ft q y hs u v) ∧ ((set = 0 ∧ first = -nI 2) ∨ ∃ i, set.testBit i = true ∧ (∀ j, j < i → set.testBit j = false) ∧ first = nI i) := by
  have htr := trd_le t
  have hn := h.1.1.1
  have hwh : wh t c < 20 := by unfold wh; split <;> omega
  have hcp := (h.1.2.1 c hc)
  suffices H : ∃ (set : Nat) (first : Int32) (τ : gS), f_M_fits_L83 gfu v (nI t) (nI (wh t c)) (σ.1 60 (wh t c)) (nI (cnt 0 13)) (-nI 2) (nI 0) (nI 0) σ = some (if t = 0 then nI (cnt set 13) else if t = 1 then first else nI set, τ) ∧ Fr cSy σ τ ∧ Bits set (fun v => v < trd t ∧ Ft q y hs u v) ∧ ((set = 0 ∧ first = -nI 2) ∨ ∃ i, set.testBit i = true ∧ (∀ j, j < i → set.testBit j = false) ∧ first = nI i) by
    rw [show cnt 0 13 = 0 by decide] at H
    exact H
  refine loopG (fun fu i (p : Nat × Int32 × gS) => f_M_fits_L83 fu v (nI t) (nI (wh t c)) (σ.1 60 (wh t c)) (nI (cnt p.1 13)) p.2.1 (nI p.1) (nI i) p.2.2) (fun o => ∃ (set : Nat) (first : Int32) (τ : gS), o = some (if t = 0 then nI (cnt set 13) else if t = 1 then first else nI set, τ) ∧ Fr cSy σ τ ∧ Bits set (fun v => v < trd t ∧ Ft q y hs u v) ∧ ((set = 0 ∧ first = -nI 2) ∨ ∃ i, set.testBit i = true ∧ (∀ j, j < i → set.testBit j = false) ∧ first = nI i))
    (fun i p => (Fr (cFt (wh t c)) σ p.2.2 ∧ ∀ a k, cSy a k = false → p.2.2.2 a k = σ.2 a k) ∧ Bits p.1 (fun v => v < i ∧ Ft q y hs u v) ∧ ((p.1 = 0 ∧ p.2.1 = -nI 2) ∨ ∃ i, p.1.testBit i = true ∧ (∀ j, j < i → p.1.testBit j = false) ∧ p.2.1 = nI i)) (trd t) 0 (0, -nI 2, σ) (by omega) (by omega) ⟨⟨Fr.rf _ _, fun _ _ _ => rfl⟩, Bits.zero.cg fun v => ⟨False.elim, fun k => absurd k.1 (Nat.not_lt_zero v)⟩, Or.inl ⟨rfl, rfl⟩⟩ ?_ ?_
  · rintro fu i ⟨set, first, s⟩ hi ⟨⟨hF, hF2⟩, hset, hfirst⟩
    left
    simp only at hF hF2 hset hfirst
    obtain ⟨s1, hs1⟩ : ∃ s1, s1 = gpi s 60 (wh t c) (nI i) := ⟨_, rfl⟩
    have F1 : Fr (cFt (wh t c)) σ s1 := by
      rw [hs1]
      exact hF.pi (by simp [cFt])
    have r60 : ∀ k, s1.1 60 k = if k = wh t c then nI i else σ.1 60 k := fun k => by
      rw [hs1, gpi_at]
      by_cases e : k = wh t c
      · rw [if_pos ⟨rfl, e⟩, if_pos e]
      · rw [if_neg (fun z => e z.2), if_neg e, hF.1 60 k (by unfold cFt cSy cSa; simp [e])]
    have w40 : ∀ k, 20 ≤ k → ¬ k = wh t c := fun k hk => by omega
    have hPM : PM s1 n (vK t K c i) (vE t E c i) P B F W D := by
      refine ⟨⟨hn, (F1.1 59 6 (by simp [cFt, cSy, cSa])).trans h.1.1.2⟩, fun j hj => ⟨⟨?_, ?_, (h.1.2.1 j hj).1.2.2⟩, ?_, ?_, ?_, ?_⟩, ⟨h.1.2.2.1.1, ?_⟩, ⟨h.1.2.2.2.1.1, ?_⟩, ⟨h.1.2.2.2.2.1, ?_⟩⟩
      · unfold vK
        split
        · rename_i e
          unfold trd at hi
          rw [if_pos e.1] at hi
          exact hi
        · exact (h.1.2.1 j hj).1.1
      · unfold vE
        split
        · rename_i e
          unfold trd at hi
          rw [if_neg e.1] at hi
          exact hi
        · exact (h.1.2.1 j hj).1.2.1
      · rw [r60]
        unfold vK wh
        by_cases t2 : t = 2
        · rw [if_pos t2]
          by_cases e : j = c
          · rw [if_pos e, if_pos ⟨t2, e⟩]
          · rw [if_neg e, if_neg (fun z => e z.2)]
            exact (h.1.2.1 j hj).2.1
        · rw [if_neg t2, if_neg (by omega), if_neg (fun z => t2 z.1)]
          exact (h.1.2.1 j hj).2.1
      · rw [r60]
        unfold vE wh
        by_cases t2 : t = 2
        · rw [if_pos t2, if_neg (by omega), if_neg (fun z => z.1 t2)]
          exact (h.1.2.1 j hj).2.2.1
        · rw [if_neg t2]
          by_cases e : j = c
          · rw [if_pos (by omega), if_pos ⟨t2, e⟩]
          · rw [if_neg (by omega), if_neg (fun z => e z.2)]
            exact (h.1.2.1 j hj).2.2.1
      · rw [r60, if_neg (w40 _ (by omega))]
        exact (h.1.2.1 j hj).2.2.2.1
      · rw [r60, if_neg (w40 _ (by omega))]
        exact (h.1.2.1 j hj).2.2.2.2
      · rw [r60, if_neg (w40 _ (by omega))]
        exact h.1.2.2.1.2
      · rw [r60, if_neg (w40 _ (by omega))]
        exact h.1.2.2.2.1.2
      · rw [r60, if_neg (w40 _ (by omega))]
        exact h.1.2.2.2.2.2
    have hLV : LwV s1 V := h.2.ag fun c k q => F1.1 c k (by
      unfold cLw at q
      unfold cFt cSy cSa
      simp only [Bool.or_eq_true, Bool.and_eq_true, beq_iff_eq, Bool.or_eq_false_iff, Bool.and_eq_false_iff, beq_eq_false_iff_ne] at q ⊢
      omega)
    have hBa : MRow s1 a z x := hB.sy (fun k => F1.1 77 k (by simp [cFt, cSy, cSa])) (fun k => F1.2 78 k (by simp [cFt, cSy, cSa]))
    have hBb : MRow s1 b y u := hB2.sy (fun k => F1.1 77 k (by simp [cFt, cSy, cSa])) (fun k => F1.2 78 k (by simp [cFt, cSy, cSa]))
    obtain ⟨r, τ, e1, e2, e3⟩ := Mfirst ⟨hPM, hLV⟩ hqv hrv ha hb hBa hBb hq h1 h2 (hhs i hi)
    have F2 : Fr (cFt (wh t c)) σ τ := F1.tr (e3.sub fun a' k q => sub_or (g := fun c' k' => (c' == 60) && (k' == wh t c)) a' k q)
    have G2 : ∀ a k, cSy a k = false → τ.2 a k = σ.2 a k := fun a k q => by
      rw [e3.2 a k q, hs1]
      exact hF2 a k q
    have hy := hB2.1
    have set13 : set < 2 ^ 13 := hset.lt fun v hv => by omega
    have ct := cnt_le set 13
    have tset : set.testBit i = false := by
      cases e : set.testBit i with
      | false => rfl
      | true => exact absurd ((hset i).mp e).1 (Nat.lt_irrefl i)
    have q1 : ¬ (if t = 2 then 7 else 12) < i := by
      unfold trd at hi
      split
      · rename_i t2
        rw [if_pos t2] at hi
        omega
      · rename_i t2
        rw [if_neg t2] at hi
        omega
    have nj : ∀ j, j < 100 → ¬ nI j = -nI 2 := fun j hj q => by
      have := congrArg Int32.toInt q
      rw [nI_toInt (by omega)] at this
      have h2 : (-nI 2).toInt = -2 := by decide
      omega
    have step : ∀ p : Nat × Int32, (Ft q y hs u i → p = (set ||| 2 ^ i, if cnt set 13 = 0 then nI i else first)) → (¬ Ft q y hs u i → p = (set, first)) → f_M_fits_L83 (fu + 1) v (nI t) (nI (wh t c)) (σ.1 60 (wh t c)) (nI (cnt set 13)) first (nI set) (nI i) s = f_M_fits_L83 fu v (nI t) (nI (wh t c)) (σ.1 60 (wh t c)) (nI (cnt p.1 13)) p.2 (nI p.1) (nI (i + 1)) τ := by
      intro p hp1 hp2
      have hj97 : ∀ m, m < 100 → ¬ m < i → f_M_fits_j97 (fun v1 v3 v4 v5 v6 v7 v8 v9 σ => f_M_fits_L83 fu v1 v3 v4 v5 v6 v7 v8 v9 σ) v (nI t) (nI (wh t c)) (σ.1 60 (wh t c)) (nI (cnt set 13)) first (nI set) (nI i) (nI m) (nI i) s = f_M_fits_L83 fu v (nI t) (nI (wh t c)) (σ.1 60 (wh t c)) (nI (cnt p.1 13)) p.2 (nI p.1) (nI (i + 1)) τ := by
        intro m hm hmi
        have hlt : ¬ nI m < nI i := by rw [nI_ltI (by omega) (by omega)]; exact hmi
        unfold f_M_fits_j97 f_M_fits_j131
        rw [if_neg hlt, if_pos (gix_nI (show wh t c < 43 by omega) (by decide)), gupE, nI_clamp (show wh t c < 2 ^ 31 by omega), ← hs1, e1, bindE]
        by_cases hft : Ft q y hs u i
        · have hr : r = -nI 2 := by
            rcases e2 with ⟨j, j1, j2, j3, j4⟩ | ⟨j1, j2⟩
            · exact absurd (hft j j1) j3
            · exact j2
          rw [hp1 hft, cnt_or _ _ tset, if_pos (show i < 13 by omega)]
          by_cases c0 : cnt set 13 = 0
          · rw [c0]
            simp (disch := omega) only [hr, litE, ↓reduceIte, gltE, sh1, nI_or, nI_add]
          · have c0' : ¬ nI (cnt set 13) = nI 0 := by rw [nI_eq (by omega) (by omega)]; exact c0
            simp (disch := omega) only [hr, litE, c0', c0, ↓reduceIte, gltE, sh1, nI_or, nI_add]
        · have hr : ¬ r = -2 := by
            rcases e2 with ⟨j, j1, j2, j3, j4⟩ | ⟨j1, j2⟩
            · rw [j4]
              exact nj j (by omega)
            · exact absurd j1 hft
          rw [hp2 hft, if_neg hr, litE, nI_add]
      by_cases t2 : t = 2
      · subst t2
        simp only [f_M_fits_L83, litE, ↓reduceIte]
        exact hj97 7 (by omega) q1
      · rw [if_neg t2] at q1
        have t2' : ¬ nI t = nI 2 := by rw [nI_eq (by omega) (by omega)]; exact t2
        simp only [f_M_fits_L83, litE, t2', ↓reduceIte]
        exact hj97 12 (by omega) q1
    by_cases hft : Ft q y hs u i
    · refine ⟨(set ||| 2 ^ i, if cnt set 13 = 0 then nI i else first, τ), step (set ||| 2 ^ i, if cnt set 13 = 0 then nI i else first) (fun _ => rfl) (fun k => absurd hft k), ⟨F2, G2⟩, hset.or.cg fun w => ⟨?_, ?_⟩, Or.inr ?_⟩
      · rintro (k | rfl)
        · exact ⟨by omega, k.2⟩
        · exact ⟨by omega, hft⟩
      · rintro ⟨k1, k2⟩
        by_cases e : w = i
        · exact Or.inr e
        · exact Or.inl ⟨by omega, k2⟩
      · rcases hfirst with ⟨k1, k2⟩ | ⟨f, k1, k2, k3⟩
        · refine ⟨i, ?_, fun j hj => ?_, ?_⟩
          · rw [Nat.testBit_or, Nat.testBit_two_pow, decide_eq_true rfl, Bool.or_true]
          · rw [Nat.testBit_or, Nat.testBit_two_pow, decide_eq_false (by omega), k1]
            simp
          · show (if cnt set 13 = 0 then nI i else first) = nI i
            rw [k1, if_pos (show cnt 0 13 = 0 by decide)]
        · have fi : f < i := ((hset f).mp k1).1
          refine ⟨f, ?_, fun j hj => ?_, ?_⟩
          · rw [Nat.testBit_or, k1, Bool.true_or]
          · rw [Nat.testBit_or, Nat.testBit_two_pow, decide_eq_false (by omega), k2 j hj]
            rfl
          · show (if cnt set 13 = 0 then nI i else first) = nI f
            have cpos : ∀ k, f < k → 0 < cnt set k := by
              intro k
              induction k with
              | zero => intro h; omega
              | succ k ih =>
                intro h
                show 0 < cnt set k + (if set.testBit k = true then 1 else 0)
                by_cases e : f = k
                · rw [← e, if_pos k1]
                  omega
                · have := ih (by omega)
                  omega
            rw [if_neg (by have := cpos 13 (by omega); omega), k3]
    · refine ⟨(set, first, τ), step (set, first) (fun k => absurd k hft) (fun _ => rfl), ⟨F2, G2⟩, hset.cg fun w => ⟨fun k => ⟨by omega, k.2⟩, fun k => ⟨?_, k.2⟩⟩, hfirst⟩
      by_cases e : w = i
      · subst e
        exact absurd k.2 hft
      · omega
  · rintro fu ⟨set, first, s⟩ ⟨⟨hF, hF2⟩, hset, hfirst⟩
    simp only at hF hF2 hset hfirst
    obtain ⟨τ, hτ⟩ : ∃ τ, τ = gpi s 60 (wh t c) (σ.1 60 (wh t c)) := ⟨_, rfl⟩
    refine ⟨set, first, τ, ?_, ⟨fun a k q => ?_, fun a k q => ?_⟩, hset, hfirst⟩
    · have hj97 : ∀ m, m < 100 → m < trd t → f_M_fits_j97 (fun v1 v3 v4 v5 v6 v7 v8 v9 σ => f_M_fits_L83 fu v1 v3 v4 v5 v6 v7 v8 v9 σ) v (nI t) (nI (wh t c)) (σ.1 60 (wh t c)) (nI (cnt set 13)) first (nI set) (nI (trd t)) (nI m) (nI (trd t)) s = some (if t = 0 then nI (cnt set 13) else if t = 1 then first else nI set, τ) := by
        intro m hm hmi
        have hlt : nI m < nI (trd t) := by rw [nI_ltI (by omega) (by omega)]; exact hmi
        unfold f_M_fits_j97
        rw [if_pos hlt, if_pos (gix_nI (show wh t c < 43 by omega) (by decide)), gupE, nI_clamp (show wh t c < 2 ^ 31 by omega), ← hτ]
        have : t = 0 ∨ t = 1 ∨ t = 2 := by omega
        rcases this with rfl | rfl | rfl
        · rw [if_pos (show nI 0 = 0 from rfl), if_pos rfl]
        · rw [if_neg (show ¬ nI 1 = 0 by decide), if_pos (show nI 1 = 1 from rfl), if_neg (by decide), if_pos rfl]
        · rw [if_neg (show ¬ nI 2 = 0 by decide), if_neg (show ¬ nI 2 = 1 by decide), if_neg (by decide), if_neg (by decide)]
      by_cases t2 : t = 2
      · subst t2
        simp only [f_M_fits_L83, litE, ↓reduceIte]
        exact hj97 7 (by omega) (by decide)
      · have t2' : ¬ nI t = nI 2 := by rw [nI_eq (by omega) (by omega)]; exact t2
        simp only [f_M_fits_L83, litE, t2', ↓reduceIte]
        exact hj97 12 (by omega) (by unfold trd; rw [if_neg t2]; omega)
    · rw [hτ, gpi_at]
      by_cases e : a = 60 ∧ k = wh t c
      · rw [if_pos e, e.1, e.2]
      · rw [if_neg e]
        exact hF.1 a k (by
          unfold cFt
          rw [q, Bool.false_or, Bool.and_eq_false_iff, beq_eq_false_iff_ne, beq_eq_false_iff_ne]
          omega)
    · rw [hτ]
      exact hF2 a k q
theorem ag_fits (v1 v2 v3 : Int32) : Agr (f_T_fits v1 v2 v3) (f_M_fits v1 v2 v3) := by
  intro σ hR0
  have hR := hR0
  obtain ⟨n, K, E, P, B, F, W, D, m, hP, hT, hL, hC, hLe, hPi, hW, hS, h0⟩ := hR
  obtain ⟨V, hV⟩ := hL.V
  have h : Ctx σ n K E P B F W D m V := ⟨hP, hV, hS⟩
  have hn := hP.1.1
  unfold f_T_fits f_M_fits
  cases h2 : two v1 6 with
  | false =>
    refine ⟨-nI 1, σ, σ, ?_, ?_, hR0⟩
    · rw [show f_T_areTwo v1 6 = some (bI false) by rw [← h2]; exact areTwo_eq v1 (by decide), bindE, if_pos (show bI false = 0 from rfl)]
      rfl
    · rw [Mrows_no h2, bindE, if_pos (by decide)]
      rfl
  | true =>
    obtain ⟨a, b, ha, hb, -, hqv, hrv⟩ := two_of (by decide) h2
    have hat : f_T_areTwo v1 6 = some (bI true) := by rw [← h2]; exact areTwo_eq v1 (by decide)
    have hq' : v1 / 10 = nI a := hqv
    have hr' : grem v1 10 = nI b := hrv
    have hrow : ∃ r, f_M_rowsAre v1 σ = some r ∧ ¬ r = -1 := by
      rcases rows_c hS hW.1.1 ha hb h2 hqv hrv with ⟨r, hr, -, -, e⟩ | ⟨z, x, y, u, -, -, -, e⟩
      · exact ⟨r, e, by rcases hr with rfl | rfl <;> decide⟩
      · exact ⟨_, e, by decide⟩
    obtain ⟨r0, hr0, hr1⟩ := hrow
    cases hv2 : inb v2 n with
    | false =>
      refine ⟨-nI 1, σ, σ, ?_, ?_, hR0⟩
      · rw [hat, bindE, if_neg (by decide), hP.1.2.1, w3_f hv2 (by omega), bindE, if_pos (by decide)]
        rfl
      · rw [hr0, bindE, if_neg hr1, isOne_eq hP.1.2.2 hn, hv2, bindE, if_pos (by decide)]
        rfl
    | true =>
      obtain ⟨c, hc, rfl⟩ := inb_of hv2 (by omega)
      cases hv3 : inb v3 3 with
      | false =>
        refine ⟨-nI 1, σ, σ, ?_, ?_, hR0⟩
        · rw [hat, bindE, if_neg (by decide), hP.1.2.1, w3_t hv2 (by omega), bindE, if_neg (by decide), show f_T_within v3 3 = some (bI false) from w3_f hv3 (by decide), bindE, if_pos (by decide)]
          rfl
        · rw [hr0, bindE, if_neg hr1, isOne_eq hP.1.2.2 hn, hv2, bindE, if_neg (by decide), show f_M_within v3.toInt64 0 2 = some (bI false) from m3_f hv3 (by decide), bindE, if_pos (by decide)]
          rfl
      | true =>
        obtain ⟨t, ht, rfl⟩ := inb_of hv3 (by omega)
        have hw3 : f_T_within (nI t) 3 = some (bI true) := w3_t hv3 (by decide)
        have hm3 : f_M_within (nI t).toInt64 0 2 = some (bI true) := m3_t hv3 (by decide)
        rcases rows_c hS hW.1.1 ha hb h2 hqv hrv with ⟨r, hr, e1, e2, e3⟩ | ⟨z, x, y, u, hB, hB2, e1, e3⟩
        · refine ⟨r, σ, σ, ?_, ?_, hR0⟩
          · rw [hat, bindE, if_neg (by decide), hP.1.2.1, w3_t hv2 (by omega), bindE, if_neg (by decide), hw3, bindE, if_neg (by decide), e1, bindE, if_pos (by decide), e2, bindE]
          · have le : ¬ 0 ≤ r := by rcases hr with rfl | rfl <;> decide
            have ne : ¬ r = -1 := by rcases hr with rfl | rfl <;> decide
            rw [e3, bindE, if_neg ne, isOne_eq hP.1.2.2 hn, hv2, bindE, if_neg (by decide), hm3, bindE, if_neg (by decide), bindE, if_neg le, bindE]
        · obtain ⟨q, hq, p1, p2⟩ := prefix_ex (bval x z 6) 40
          obtain ⟨hs, hhs⟩ := fit_sets n V K E P B W D x t c (fun v w d hv hw => vRg hP.pm hv hw) q (fun i hi => (bval.v hB (p1 i hi)).2.1)
          obtain ⟨f, τ, a1, a2, a3⟩ := Tfitting h ha hb hB hB2 ht hc hq p1 p2 hhs
          have hBt := hB.fr ha a2
          have hBt2 := hB2.fr hb a2
          have hCt := h.fr a2
          obtain ⟨set, first, υ, c1, c2, c3, c4⟩ := Mfits_L ⟨hCt.1.pm, hCt.2.1⟩ hqv hrv ha hb hBt.m hBt2.m ht hc hq p1 p2 hhs
          have hsf : set = f := c3.eq a3
          subst hsf
          have htr := trd_le t
          have set13 : set < 8192 := a3.lt (k := 13) fun v hv => by omega
          have hans : ∃ r, f_T_fits_j77 (nI t) (if t = 2 then nI 1 else nI 0) (nI c) (47 + 2 * b) (47 + 2 * a) σ = some (r, τ) ∧ r = if t = 0 then nI (cnt set 13) else if t = 1 then first else nI set := by
            refine ⟨_, ?_, rfl⟩
            unfold f_T_fits_j77
            rw [a1, bindE]
            have : t = 0 ∨ t = 1 ∨ t = 2 := by omega
            rcases this with rfl | rfl | rfl
            · rw [if_neg (show ¬ nI 0 = 1 by decide), if_pos (show nI 0 = 0 from rfl), bc set13, bindE, if_pos rfl]
            · rw [if_pos (show nI 1 = 1 from rfl), if_neg (show ¬ (1 = 0) by decide), if_pos rfl]
              rcases c4 with ⟨k1, k2⟩ | ⟨i, k1, k2, k3⟩
              · rw [k1, k2, if_pos (show nI 0 = 0 from rfl)]
                rfl
              · have s0 : set ≠ 0 := nz_iff.mpr ⟨i, k1⟩
                have s0' : ¬ nI set = 0 := by
                  intro k
                  have := (nI_eq (a := set) (b := 0) (by omega) (by omega)).mp k
                  exact s0 this
                obtain ⟨l, l1, l2, l3, l4⟩ := lowest_L set13 s0
                have : l = i := by
                  rcases Nat.lt_or_ge l i with g | g
                  · rw [k2 l g] at l3
                    cases l3
                  · rcases Nat.lt_or_ge i l with g2 | g2
                    · rw [l4 i g2] at k1
                      cases k1
                    · omega
                rw [if_neg s0', l1, bindE, this, k3]
            · rw [if_neg (show ¬ nI 2 = 1 by decide), if_neg (show ¬ nI 2 = 0 by decide), if_neg (by decide), if_neg (by decide)]
          obtain ⟨r, hr1', hr2⟩ := hans
          refine ⟨r, τ, υ, ?_, ?_, (hR0.frs a2).frs (fr_no c2 cSy_s)⟩
          · rw [hat, bindE, if_neg (by decide), hP.1.2.1, w3_t hv2 (by omega), bindE, if_neg (by decide), hw3, bindE, if_neg (by decide), e1, bindE, if_neg (by decide), hq', hr', if_pos (gix_nI ha (by decide)), if_pos (gix_nI hb (by decide)), gshc_nI ha, gshc_nI hb]
            by_cases t2 : t = 2
            · subst t2
              rw [if_pos (show nI 2 = 2 from rfl), ← hr1']
              rfl
            · have t2' : ¬ nI t = 2 := by
                intro k
                exact t2 ((nI_eq (a := t) (b := 2) (by omega) (by omega)).mp k)
              rw [if_neg t2', ← hr1', if_neg t2]
              rfl
          · have w20 : wh t c < 43 := by unfold wh; split <;> omega
            have j59 : f_M_fits_j59 v1 (nI t) (nI (wh t c)) τ = some (r, υ) := by
              unfold f_M_fits_j59
              rw [if_pos (gix_nI w20 (by decide)), gltE, nI_clamp (show wh t c < 2 ^ 31 by omega), hr2, ← c1]
              rfl
            rw [rowsAre_fr a2, e3, bindE, if_neg (by decide), isOne_eq hCt.1.1.2.2 hn, hv2, bindE, if_neg (by decide), hm3, bindE, if_neg (by decide), bindE, if_pos (by decide)]
            by_cases t2 : t = 2
            · subst t2
              rw [if_pos (show nI 2 = 2 from rfl)]
              exact j59
            · have t2' : ¬ nI t = 2 := by
                intro k
                exact t2 ((nI_eq (a := t) (b := 2) (by omega) (by omega)).mp k)
              rw [if_neg t2', show (10 : Int32) = nI 10 from rfl, nI_add]
              unfold wh at j59
              rw [if_neg t2] at j59
              exact j59
