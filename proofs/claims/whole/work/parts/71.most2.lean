/-! pure: pairs agrees -/
theorem Mfirst14 {σ : gS} {m a : Nat} (ha : Lo m a) (ha10 : a < 10) (hm : m < 1024) (k2 : Int32 → gS → Option (Int32 × gS)) {y : Nat} (hy : σ.1 68 (clr m a) = nI y) : f_M_pairsOf_L14 k2 gfu (nI m) (nI 0) σ = f_M_pairsOf_L49 k2 gfu (nI m) (nI a) (nI (clr m a)) (nI y) (nI (a + 1)) σ := by
  have hcl := clr_le m a
  refine loopG (fun fu i (_ : Nat) => f_M_pairsOf_L14 k2 fu (nI m) (nI i) σ) (fun o => o = f_M_pairsOf_L49 k2 gfu (nI m) (nI a) (nI (clr m a)) (nI y) (nI (a + 1)) σ) (fun _ _ => True) a 0 0 (by omega) (by omega) trivial ?_ ?_
  · intro fu i _ hi _
    left
    refine ⟨0, ?_, trivial⟩
    have t := ha.2 i hi
    rw [f_M_pairsOf_L14, isIn_eq (by omega) (by omega), t, bindE, if_pos (show bI false = 0 by decide), litE, nI_add]
  · intro fu _ _
    rw [f_M_pairsOf_L14, isIn_eq (by omega) (by omega), ha.1, bindE, if_neg (show ¬ bI true = 0 by decide)]
    simp only [litE]
    rw [nI_clr m a (by omega), gltE, if_pos (gix_nI (show clr m a < 1024 by omega) (by decide)), nI_clamp (show clr m a < 2 ^ 31 by omega), hy, gltE, gltE, nI_add]
def c68 (c k : Nat) : Bool := (c == 68) && !(k == 0)
theorem Mset {σ : gS} {n W m a : Nat} {s K : Nat → Nat} (hM : MS σ n s K W) (hR : Rg n s K W) (ha : Lo m a) (han : a < n) (hm : m < 1024) (ht : ∀ t, t < m → σ.1 68 t = nI (mm n s K W t)) (hb : ∀ t, t < 1024 → mm n s K W t ≤ 5) (k2 : Int32 → gS → Option (Int32 × gS)) :
    f_M_pairsOf_L14 k2 gfu (nI m) (nI 0) σ = k2 (nI (m + 1)) (gpi σ 68 m (nI (mm n s K W m))) := by
  have hn := hR.1
  have e6 := hM.1.1
  have h1 := clr_lt hm ha.1
  rw [Mfirst14 ha (by omega) hm k2 (ht _ h1)]
  have key : ∀ j, max (mm n s K W (clr m a)) (pmx s K W (mm n s K W) a (clr m a) j) ≤ 100 := by
    intro j
    have b1 := hb (clr m a) (by omega)
    have : pmx s K W (mm n s K W) a (clr m a) j ≤ 6 := by
      induction j with
      | zero => exact Nat.zero_le _
      | succ j ih =>
        show (if a < j ∧ (clr m a).testBit j = true ∧ agr s K W a j then max (pmx s K W (mm n s K W) a (clr m a) j) (1 + mm n s K W (clr (clr m a) j)) else pmx s K W (mm n s K W) a (clr m a) j) ≤ 6
        have := clr_le (clr m a) j
        have := hb (clr (clr m a) j) (by omega)
        split <;> omega
    omega
  rw [mm_at hm ha]
  have st : pmx s K W (mm n s K W) a (clr m a) (a + 1) = 0 := by
    have : ∀ j, j ≤ a + 1 → pmx s K W (mm n s K W) a (clr m a) j = 0 := by
      intro j
      induction j with
      | zero => intro _; rfl
      | succ j ih =>
        intro hj
        show (if a < j ∧ (clr m a).testBit j = true ∧ agr s K W a j then _ else pmx s K W (mm n s K W) a (clr m a) j) = 0
        rw [if_neg (fun q => by omega)]
        exact ih (by omega)
    exact this (a + 1) (Nat.le_refl _)
  suffices H : f_M_pairsOf_L49 k2 gfu (nI m) (nI a) (nI (clr m a)) (nI (max (mm n s K W (clr m a)) (pmx s K W (mm n s K W) a (clr m a) (a + 1)))) (nI (a + 1)) σ = k2 (nI (m + 1)) (gpi σ 68 m (nI (max (mm n s K W (clr m a)) (pmx s K W (mm n s K W) a (clr m a) n)))) by
    rw [st, Nat.max_zero] at H
    exact H
  refine loopG (fun fu i (_ : Nat) => f_M_pairsOf_L49 k2 fu (nI m) (nI a) (nI (clr m a)) (nI (max (mm n s K W (clr m a)) (pmx s K W (mm n s K W) a (clr m a) i))) (nI i) σ) (fun o => o = k2 (nI (m + 1)) (gpi σ 68 m (nI (max (mm n s K W (clr m a)) (pmx s K W (mm n s K W) a (clr m a) n))))) (fun i _ => a + 1 ≤ i) n (a + 1) 0 (by omega) (by omega) (Nat.le_refl _) ?_ ?_
  · intro fu i _ hi hai
    left
    refine ⟨0, ?_, by omega⟩
    have hcm : clr m a < 1024 := by omega
    have ki := key i
    have hag := Magree hM hR han hi
    have hstep : pmx s K W (mm n s K W) a (clr m a) (i + 1) = if a < i ∧ (clr m a).testBit i = true ∧ agr s K W a i then max (pmx s K W (mm n s K W) a (clr m a) i) (1 + mm n s K W (clr (clr m a) i)) else pmx s K W (mm n s K W) a (clr m a) i := rfl
    rw [f_M_pairsOf_L49, e6, if_neg (nI_ge (a := i) (b := n) hi (by omega)), isIn_eq (by omega) (by omega), bindE]
    cases t : (clr m a).testBit i with
    | false =>
      rw [if_pos (show bI false = 0 by decide), hstep, if_neg (by rw [t]; intro q; exact absurd q.2.1 (by decide)), litE, nI_add]
    | true =>
      rw [if_neg (show ¬ bI true = 0 by decide), hag, bindE]
      by_cases ta : agr s K W a i
      · have h2 := clr_lt hcm t
        have hs0 : pmx s K W (mm n s K W) a (clr m a) (i + 1) = max (pmx s K W (mm n s K W) a (clr m a) i) (1 + mm n s K W (clr (clr m a) i)) := hstep.trans (if_pos ⟨by omega, t, ta⟩)
        rw [decide_eq_true ta, if_neg (show ¬ bI true = 0 by decide), hs0]
        have hb2 := hb (clr (clr m a) i) (by omega)
        simp only [litE]
        rw [nI_clr (clr m a) i (by omega), if_pos (gix_nI (show clr (clr m a) i < 1024 by omega) (by decide)), nI_clamp (show clr (clr m a) i < 2 ^ 31 by omega), ht _ (by omega), nI_add, nI_add]
        by_cases l : mm n s K W (clr (clr m a) i) + 1 ≤ max (mm n s K W (clr m a)) (pmx s K W (mm n s K W) a (clr m a) i)
        · have e : max (mm n s K W (clr m a)) (max (pmx s K W (mm n s K W) a (clr m a) i) (1 + mm n s K W (clr (clr m a) i))) = max (mm n s K W (clr m a)) (pmx s K W (mm n s K W) a (clr m a) i) := by omega
          rw [if_pos (nI_le l (by omega)), e]
        · have e : max (mm n s K W (clr m a)) (max (pmx s K W (mm n s K W) a (clr m a) i) (1 + mm n s K W (clr (clr m a) i))) = mm n s K W (clr (clr m a) i) + 1 := by omega
          rw [if_neg (nI_ge (by omega) (by omega)), if_pos (gix_nI (show clr (clr m a) i < 1024 by omega) (by decide)), gltE, e]
      · rw [decide_eq_false ta, if_pos (show bI false = 0 by decide), hstep, if_neg (fun q => ta q.2.2), litE, nI_add]
  · intro fu _ hai
    rw [f_M_pairsOf_L49, e6, if_pos (show nI n ≤ nI n from Int32.le_refl _), if_pos (gix_nI hm (by decide)), nI_clamp (show m < 2 ^ 31 by omega), gupE, litE, nI_add]
theorem mm_small {n : Nat} {s K : Nat → Nat} {W m : Nat} (hm : m < 1024) : mm n s K W m ≤ 5 := by
  have h := (mm_bound (n := n) (s := s) (K := K) (W := W) 0 (m + 1) m (by omega) hm).1
  have h2 : cb (fun j => m.testBit j) 10 ≤ 10 * 1 := sm_le (fun j => by
    show (if m.testBit j = true then 1 else 0) ≤ 1
    split <;> omega) 10
  omega
theorem Mmost {σ : gS} {n W : Nat} {s K : Nat → Nat} (hM : MS σ n s K W) (hR : Rg n s K W) (h0 : σ.1 68 0 = nI 0) : ∃ τ, f_M_pairsOf σ = some (nI (mm n s K W (2 ^ n - 1)), τ) ∧ Fr c68 σ τ := by
  have hn := hR.1
  have hfl := full_lt hn
  have pw := Nat.two_pow_pos n
  have keep : ∀ τ, Fr c68 σ τ → MS τ n s K W := fun τ hF => ⟨⟨(hF.1 59 6 rfl).trans hM.1.1, (hF.1 60 41 rfl).trans hM.1.2⟩, fun j hj => ⟨(hF.1 67 j rfl).trans (hM.2 j hj).1, (hF.1 60 j rfl).trans (hM.2 j hj).2⟩⟩
  unfold f_M_pairsOf
  simp only [litE]
  refine loopG (fun fu i a => f_M_pairsOf_L2 fu (nI i) a) (fun o => ∃ τ, o = some (nI (mm n s K W (2 ^ n - 1)), τ) ∧ Fr c68 σ τ) (fun i a => 1 ≤ i ∧ Fr c68 σ a ∧ ∀ t, t < i → a.1 68 t = nI (mm n s K W t)) (2 ^ n) 1 σ (by omega) (by omega) ⟨Nat.le_refl _, Fr.rf _ _, fun t ht => by
    have : t = 0 := by omega
    rw [this]
    exact h0⟩ ?_ ?_
  · rintro fu i a hi ⟨h1, hF, ht⟩
    left
    have hC := keep a hF
    have i1024 : i < 1024 := by omega
    obtain ⟨b, hb, hb10⟩ := Lo.ex i1024 (by omega)
    have hbn : b < n := by
      refine Classical.byContradiction fun q => ?_
      have := hb.1
      rw [Nat.testBit_lt_two_pow (Nat.lt_of_lt_of_le hi (Nat.pow_le_pow_right (by decide) (show n ≤ b by omega)))] at this
      cases this
    have e := Mset hC hR hb hbn i1024 ht (fun t ht => mm_small ht) (fun v1 σ => f_M_pairsOf_L2 fu v1 σ)
    refine ⟨gpi a 68 i (nI (mm n s K W i)), ?_, by omega, hF.pi (by
      unfold c68
      have : ¬ i = 0 := by omega
      simp [this]), fun t ht2 => ?_⟩
    · have q1 : ¬ (1 : Int32) <<< (a.1 59 6 &&& 31) ≤ nI i := by
        rw [hC.1.1]
        show ¬ nI 1 <<< (nI n &&& nI 31) ≤ nI i
        rw [sh1 (by omega)]
        exact nI_ge hi (by omega)
      rw [f_M_pairsOf_L2, if_neg q1]
      exact e
    · rw [gpi_at]
      by_cases q : t = i
      · rw [if_pos ⟨rfl, q⟩, q]
      · rw [if_neg fun z => q z.2]
        exact ht t (by omega)
  · rintro fu a ⟨h1, hF, ht⟩
    have hC := keep a hF
    have q1 : (1 : Int32) <<< (a.1 59 6 &&& 31) ≤ nI (2 ^ n) := by
      rw [hC.1.1]
      show nI 1 <<< (nI n &&& nI 31) ≤ nI (2 ^ n)
      rw [sh1 (by omega)]
      exact Int32.le_refl _
    refine ⟨a, ?_, hF⟩
    rw [f_M_pairsOf_L2, if_pos q1]
    by_cases n0 : n = 0
    · have : a.1 59 6 = 0 := by rw [hC.1.1, n0]; rfl
      rw [if_pos this, n0]
      rfl
    · have : ¬ a.1 59 6 = 0 := by
        rw [hC.1.1]
        intro q
        exact n0 ((nI_eq (a := n) (b := 0) (by omega) (by omega)).mp q)
      rw [if_neg this, Meverybody hC.1.1 hn, bindE, if_pos (gix_nI (show 2 ^ n - 1 < 1024 by omega) (by decide)), nI_clamp (show 2 ^ n - 1 < 2 ^ 31 by omega), ht _ (by omega)]
/-- the class's rows of friends and families -/
def FrG (σ : gS) (n : Nat) (s K : Nat → Nat) (W : Nat) : Prop := (∀ a, a < n → ∃ f, f < 1024 ∧ σ.1 15 a = nI f ∧ Bits f (fun b => a < b ∧ b < n ∧ agr s K W a b)) ∧ ∀ k, k < 8 → ∃ g, g < 1024 ∧ σ.1 16 k = nI g ∧ Bits g (fun b => b < n ∧ K b = k)
theorem cnt_and {m g : Nat} (n : Nat) {K : Nat → Nat} {k : Nat} (hm : ∀ j, m.testBit j = true → j < n) (hg : Bits g (fun b => b < n ∧ K b = k)) : cnt (m &&& g) 10 = cb (fun j => m.testBit j && decide (K j = k)) 10 := by
  rw [cnt_cb]
  refine cb_cg 10 fun j _ => ?_
  rw [Nat.testBit_and]
  cases t : m.testBit j with
  | false => rfl
  | true =>
    have hj := hm j t
    have := hg j
    by_cases q : K j = k
    · rw [this.mpr ⟨hj, q⟩, decide_eq_true q]
    · rw [decide_eq_false q]
      cases z : g.testBit j with
      | false => rfl
      | true => exact absurd (this.mp z).2 q
theorem Tbound {σ : gS} {n W m : Nat} {s K : Nat → Nat} (hG : FrG σ n s K W) (hm : m < 1024) (hmn : ∀ j, m.testBit j = true → j < n) : ∃ b, f_Cr_boundAmong 11 (nI m) σ = some (nI b) ∧ b ≤ 10 ∧ mm n s K W m ≤ b ∧ b ≤ cnt m 10 / 2 := by
  have c10 := cnt_le m 10
  have mb0 := (mm_bound (n := n) (s := s) (K := K) (W := W) 0 (m + 1) m (by omega) hm).1
  have hmb : ∀ k, mm n s K W m + cb (fun j => m.testBit j && decide (K j = k)) 10 ≤ cnt m 10 := fun k => by
    rw [cnt_cb]
    exact (mm_bound (n := n) (s := s) (K := K) (W := W) k (m + 1) m (by omega) hm).2
  rw [← cnt_cb] at mb0
  have hst : f_Cr_boundAmong 11 (nI m) σ = f_Cr_boundAmong_L10 11 σ gfu (nI m) (nI (cnt m 10)) (nI 0) (nI 0) := by
    unfold f_Cr_boundAmong
    rw [bc (by omega), cnt10 hm, bindE]
    rfl
  rw [hst]
  refine loopG (fun fu i (a : Nat) => f_Cr_boundAmong_L10 11 σ fu (nI m) (nI (cnt m 10)) (nI a) (nI i)) (fun o => ∃ b, o = some (nI b) ∧ b ≤ 10 ∧ mm n s K W m ≤ b ∧ b ≤ cnt m 10 / 2) (fun _ a => a + mm n s K W m ≤ cnt m 10) 8 0 0 (by omega) (by omega) (by omega) ?_ ?_
  · intro fu i a hi hp
    left
    obtain ⟨g, g1, g2, g3⟩ := hG.2 i hi
    have hcg := cnt_and n hmn g3
    have hk := hmb i
    have hmg : m &&& g < 1024 := Nat.lt_of_le_of_lt Nat.and_le_left hm
    have hcl := cnt_le (m &&& g) 10
    refine ⟨max a (cnt (m &&& g) 10), ?_, ?_⟩
    · rw [f_Cr_boundAmong_L10, if_neg (show ¬ (8 : Int32) ≤ nI i from nI_ge (a := i) (b := 8) hi (by omega)), if_pos (gix_nI hi (by decide)), nI_clamp (show i < 2 ^ 31 by omega)]
      show ((f_JI_bitCount (nI m &&& σ.1 16 i)).bind fun q4 => f_Cr_boundAmong_L10 11 σ fu (nI m) (nI (cnt m 10)) (gmax (nI a) q4) (nI i + nI 1)) = _
      rw [g2, nI_and, bc (by omega), cnt10 hmg, bindE, gmax_nI (by omega) (by omega), nI_add]
    · rw [hcg]
      omega
  · intro fu a hp
    refine ⟨min (cnt m 10 / 2) (cnt m 10 - a), ?_, by omega, by omega, by omega⟩
    have hd : nI (cnt m 10) / nI 2 = nI (cnt m 10 / 2) := pk_div (by omega) (by decide) (by decide)
    rw [f_Cr_boundAmong_L10, if_pos (show (8 : Int32) ≤ nI 8 from Int32.le_refl _)]
    show some (gmin (nI (cnt m 10) / nI 2) (nI (cnt m 10) - nI a)) = _
    rw [hd, pk_sub (by omega), gmin_nI (by omega) (by omega)]
theorem Tmost {σ : gS} {n W : Nat} {s K : Nat → Nat} (h2 : σ.1 11 2 = nI n) (hn : n ≤ 10) (hG : FrG σ n s K W) : ∀ f m, m < 1024 → (∀ j, m.testBit j = true → j < n) → cnt m 10 < f → f_Cr_mostAmong f 11 (nI m) σ = some (nI (mm n s K W m)) := by
  intro f
  induction f with
  | zero => intro m _ _ h; omega
  | succ f ih =>
    intro m hm hmn hf
    obtain ⟨b, b1, b2, b3, b4⟩ := Tbound hG hm hmn
    show fo_Cr_mostAmong (fun c v1 σ => f_Cr_mostAmong f c v1 σ) 11 (nI m) σ = _
    unfold fo_Cr_mostAmong
    rw [b1, bindE]
    by_cases m0 : m = 0
    · subst m0
      have b0 : b = 0 := by
        have : cnt 0 10 = 0 := by decide
        omega
      subst b0
      have hlo : ∃ r, f_T_lowestOf (nI 0) = some r := ⟨nI 32, by decide +kernel⟩
      obtain ⟨r, hr⟩ := hlo
      rw [hr, bindE, if_pos (show nI 0 ≤ 0 from Int32.le_refl _)]
      rfl
    · obtain ⟨a, e1, e2, e3, e4⟩ := lowest_L (f := m) (by omega) m0
      have hLo : Lo m a := ⟨e3, e4⟩
      have ha10 : a < n := hmn a e3
      rw [e1, bindE]
      by_cases bz : b = 0
      · rw [if_pos (show nI b ≤ 0 by rw [bz]; exact Int32.le_refl _)]
        have : mm n s K W m = 0 := by omega
        rw [this]
        rfl
      · have hb0 : ¬ nI b ≤ 0 := nI_ge (a := 0) (b := b) (by omega) (by omega)
        have hcl := clr_lt hm e3
        have hcm : clr m a < 1024 := by omega
        have hcn : ∀ j, (clr m a).testBit j = true → j < n := fun j hj => by
          rw [tb_clr hm, Bool.and_eq_true] at hj
          exact hmn j hj.1
        have ccnt : cnt m 10 = cnt (clr m a) 10 + 1 := by
          rw [cnt_cb, cnt_cb, cb_out (show a < 10 by omega) e3]
          congr 1
          exact cb_cg 10 fun j _ => (tb_clr hm).symm
        obtain ⟨fr, fr1, fr2, fr3⟩ := hG.1 a ha10
        have hrest := ih (clr m a) hcm hcn (by omega)
        have mmat := mm_at (n := n) (s := s) (K := K) (W := W) hm hLo
        rw [if_neg hb0, if_pos (show nI a < 10 from nI_lt (a := a) (b := 10) (by omega) (by omega))]
        show glt (nI m &&& (nI 1 <<< (nI a &&& nI 31) ^^^ -nI 1)) _ = _
        rw [nI_clr m a (by omega), gltE, gltE]
        have st : pmx s K W (mm n s K W) a (clr m a) (a + 1) = 0 := by
          have : ∀ j, j ≤ a + 1 → pmx s K W (mm n s K W) a (clr m a) j = 0 := by
            intro j
            induction j with
            | zero => intro _; rfl
            | succ j ih =>
              intro hj
              show (if a < j ∧ (clr m a).testBit j = true ∧ agr s K W a j then _ else pmx s K W (mm n s K W) a (clr m a) j) = 0
              rw [if_neg (fun q => by omega)]
              exact ih (by omega)
          exact this (a + 1) (Nat.le_refl _)
        have mono : ∀ d j, pmx s K W (mm n s K W) a (clr m a) j ≤ pmx s K W (mm n s K W) a (clr m a) (j + d) := by
          intro d
          induction d with
          | zero => intro j; exact Nat.le_refl _
          | succ d ihd =>
            intro j
            refine Nat.le_trans (ihd j) ?_
            show _ ≤ if a < j + d ∧ (clr m a).testBit (j + d) = true ∧ agr s K W a (j + d) then max (pmx s K W (mm n s K W) a (clr m a) (j + d)) (1 + mm n s K W (clr (clr m a) (j + d))) else pmx s K W (mm n s K W) a (clr m a) (j + d)
            split
            · omega
            · exact Nat.le_refl _
        have small : ∀ t, t < 1024 → mm n s K W t ≤ 5 := fun t ht => mm_small ht
        have psm : ∀ j, pmx s K W (mm n s K W) a (clr m a) j ≤ 6 := by
          intro j
          induction j with
          | zero => exact Nat.zero_le _
          | succ j ih =>
            show (if a < j ∧ (clr m a).testBit j = true ∧ agr s K W a j then max (pmx s K W (mm n s K W) a (clr m a) j) (1 + mm n s K W (clr (clr m a) j)) else pmx s K W (mm n s K W) a (clr m a) j) ≤ 6
            have := clr_le (clr m a) j
            have := small (clr (clr m a) j) (by omega)
            split <;> omega
        -- behind the loop
        have j100 : ∀ j, j ≤ n → (j = n ∨ b ≤ pmx s K W (mm n s K W) a (clr m a) j) → f_Cr_mostAmong_j100 (fun c v1 σ => f_Cr_mostAmong f c v1 σ) 11 σ (nI b) (nI (clr m a)) (nI (pmx s K W (mm n s K W) a (clr m a) j)) = some (nI (mm n s K W m)) := by
          intro j hj hc
          have p6 := psm j
          unfold f_Cr_mostAmong_j100
          by_cases q : b ≤ pmx s K W (mm n s K W) a (clr m a) j
          · rw [if_pos (nI_le q (by omega))]
            have l := mono (n - j) j
            rw [show j + (n - j) = n by omega] at l
            congr 2
            omega
          · have hjn : j = n := by omega
            subst hjn
            rw [if_neg (nI_ge (by omega) (by omega))]
            show ((f_Cr_mostAmong f 11 (nI (clr m a)) σ).bind _) = _
            rw [hrest, bindE, gmax_nI (by omega) (by have := small (clr m a) hcm; omega), mmat]
            congr 2
            omega
        suffices H : f_Cr_mostAmong_L40 (fun c v1 σ => f_Cr_mostAmong f c v1 σ) 11 σ gfu (nI b) (nI a) (nI (clr m a)) (nI (pmx s K W (mm n s K W) a (clr m a) (a + 1))) (nI (a + 1)) = some (nI (mm n s K W m)) by
          rw [st] at H
          show f_Cr_mostAmong_L40 (fun c v1 σ => f_Cr_mostAmong f c v1 σ) 11 σ gfu (nI b) (nI a) (nI (clr m a)) (nI 0) (nI a + nI 1) = _
          rw [nI_add]
          exact H
        refine loopG (fun fu i (_ : Nat) => f_Cr_mostAmong_L40 (fun c v1 σ => f_Cr_mostAmong f c v1 σ) 11 σ fu (nI b) (nI a) (nI (clr m a)) (nI (pmx s K W (mm n s K W) a (clr m a) i)) (nI i)) (fun o => o = some (nI (mm n s K W m))) (fun i _ => a + 1 ≤ i) n (a + 1) 0 (by omega) (by omega) (Nat.le_refl _) ?_ ?_
        · intro fu i _ hi hai
          have p6 := psm i
          by_cases q : b ≤ pmx s K W (mm n s K W) a (clr m a) i
          · right
            show f_Cr_mostAmong_L40 _ 11 σ (fu + 1) (nI b) (nI a) (nI (clr m a)) (nI (pmx s K W (mm n s K W) a (clr m a) i)) (nI i) = _
            rw [f_Cr_mostAmong_L40, h2, if_neg (nI_ge (a := i) (b := n) hi (by omega)), if_pos (nI_le q (by omega))]
            exact j100 i (by omega) (Or.inr q)
          · left
            refine ⟨0, ?_, by omega⟩
            have hstep : pmx s K W (mm n s K W) a (clr m a) (i + 1) = if a < i ∧ (clr m a).testBit i = true ∧ agr s K W a i then max (pmx s K W (mm n s K W) a (clr m a) i) (1 + mm n s K W (clr (clr m a) i)) else pmx s K W (mm n s K W) a (clr m a) i := rfl
            have fm : fr &&& clr m a < 1024 := Nat.lt_of_le_of_lt Nat.and_le_right hcm
            have hhas : f_T_has (σ.1 15 a &&& nI (clr m a)) (nI i) = some (bI ((fr &&& clr m a).testBit i)) := by
              rw [fr2, nI_and]
              exact has_eq (by omega) (by omega)
            rw [f_Cr_mostAmong_L40, h2, if_neg (nI_ge (a := i) (b := n) hi (by omega)), if_neg (nI_ge (by omega) (by omega)), if_pos (gix_nI (show a < 10 by omega) (by decide)), nI_clamp (show a < 2 ^ 31 by omega)]
            show ((f_T_has (σ.1 15 a &&& nI (clr m a)) (nI i)).bind _) = _
            rw [hhas, bindE]
            by_cases t : (fr &&& clr m a).testBit i = true
            · rw [t, if_neg (show ¬ bI true = 0 by decide)]
              rw [Nat.testBit_and, Bool.and_eq_true] at t
              have fa := (fr3 i).mp t.1
              have h3 := clr_lt hcm t.2
              have hcn2 : ∀ j, (clr (clr m a) i).testBit j = true → j < n := fun j hj => by
                rw [tb_clr hcm, Bool.and_eq_true] at hj
                exact hcn j hj.1
              have ccnt2 : cnt (clr m a) 10 = cnt (clr (clr m a) i) 10 + 1 := by
                rw [cnt_cb, cnt_cb, cb_out (show i < 10 by omega) t.2]
                congr 1
                exact cb_cg 10 fun j _ => (tb_clr hcm).symm
              have hr2 := ih (clr (clr m a) i) (by omega) hcn2 (by omega)
              have s5 := small (clr (clr m a) i) (by omega)
              show ((f_Cr_mostAmong f 11 (nI (clr m a) &&& (nI 1 <<< (nI i &&& nI 31) ^^^ -nI 1)) σ).bind _) = _
              rw [nI_clr (clr m a) i (by omega), hr2, bindE, hstep, if_pos ⟨by omega, t.2, fa.2.2⟩]
              show glt (gmax (nI (pmx s K W (mm n s K W) a (clr m a) i)) (nI 1 + nI (mm n s K W (clr (clr m a) i)))) _ = _
              rw [nI_add, gmax_nI (by omega) (by omega), gltE, litE, nI_add]
            · have t' : (fr &&& clr m a).testBit i = false := by
                cases z : (fr &&& clr m a).testBit i with
                | false => rfl
                | true => exact absurd z t
              rw [t', if_pos (show bI false = 0 by decide), hstep, if_neg, litE, nI_add]
              rintro ⟨z1, z2, z3⟩
              rw [Nat.testBit_and, z2, (fr3 i).mpr ⟨z1, hi, z3⟩] at t'
              cases t'
        · intro fu _ hai
          show f_Cr_mostAmong_L40 _ 11 σ (fu + 1) (nI b) (nI a) (nI (clr m a)) (nI (pmx s K W (mm n s K W) a (clr m a) n)) (nI n) = _
          rw [f_Cr_mostAmong_L40, h2, if_pos (show nI n ≤ nI n from Int32.le_refl _)]
          exact j100 n (Nat.le_refl _) (Or.inl rfl)
theorem Tcouples {σ : gS} {n W : Nat} {s K : Nat → Nat} (hM : CS 11 σ n s K W) (hR : Rg n s K W) : ∃ τ, f_Cr_mostCouples 11 σ = some (nI (mm n s K W (2 ^ n - 1)), τ) ∧ Frs σ τ := by
  have hn := hR.1
  have hfl := full_lt hn
  have kp : ∀ τ, Fr (fun c _ => c == 15 || c == 16) σ τ → CS 11 τ n s K W := fun τ hF => ⟨⟨(hF.1 11 2 rfl).trans hM.1.1, (hF.1 11 3 rfl).trans hM.1.2⟩, fun j hj => ⟨(hF.1 12 j rfl).trans (hM.2 j hj).1, (hF.1 13 j rfl).trans (hM.2 j hj).2⟩⟩
  obtain ⟨s0, hs0⟩ : ∃ s0, s0 = gsi (gsi σ 15 (fun i => if i < 10 then nI 0 else σ.1 15 i)) 16 (fun i => if i < 8 then nI 0 else (gsi σ 15 (fun i => if i < 10 then nI 0 else σ.1 15 i)).1 16 i) := ⟨_, rfl⟩
  have z15 : ∀ k, k < 10 → s0.1 15 k = nI 0 := fun k hk => by
    rw [hs0, gsi_at, if_neg (by decide), gsi_at, if_pos rfl, if_pos hk]
  have z16 : ∀ k, k < 8 → s0.1 16 k = nI 0 := fun k hk => by
    rw [hs0, gsi_at, if_pos rfl, if_pos hk]
  have F0 : Fr (fun c _ => c == 15 || c == 16) σ s0 := by
    rw [hs0]
    exact ((Fr.rf _ σ).si (fun k => rfl)).si (fun k => rfl)
  have hst : f_Cr_mostCouples 11 σ = f_Cr_mostCouples_L18 11 gfu (nI 0) s0 := by
    unfold f_Cr_mostCouples f_JA_fill
    rw [bindE, bindE, hs0]
    rfl
  rw [hst]
  refine loopG (fun fu i a => f_Cr_mostCouples_L18 11 fu (nI i) a) (fun o => ∃ τ, o = some (nI (mm n s K W (2 ^ n - 1)), τ) ∧ Frs σ τ) (fun i a => Fr (fun c _ => c == 15 || c == 16) σ a ∧ (∀ x, x < n → ∃ f, f < 1024 ∧ a.1 15 x = nI f ∧ Bits f (fun b => x < i ∧ x < b ∧ b < n ∧ agr s K W x b)) ∧ ∀ k, k < 8 → ∃ g, g < 1024 ∧ a.1 16 k = nI g ∧ Bits g (fun b => b < i ∧ K b = k)) n 0 s0 (by omega) (by omega) ⟨F0, fun x hx => ⟨0, by decide, z15 x (by omega), Bits.zero.cg fun b => ⟨False.elim, fun q => by omega⟩⟩, fun k hk => ⟨0, by decide, z16 k hk, Bits.zero.cg fun b => ⟨False.elim, fun q => by omega⟩⟩⟩ ?_ ?_
  · rintro fu i a hi ⟨hF, hf, hg⟩
    left
    have hC := kp a hF
    have k1 := hR.sk hi
    have aK : a.1 13 i = nI (K i) := (hC.2 i hi).2
    obtain ⟨g, g1, g2, g3⟩ := hg (K i) k1.2.1
    obtain ⟨a1, ha1⟩ : ∃ a1, a1 = gpi a 16 (K i) (nI (g ||| 2 ^ i)) := ⟨_, rfl⟩
    have Fa1 : Fr (fun c _ => c == 15 || c == 16) σ a1 := by
      rw [ha1]
      exact hF.pi rfl
    have r15 : ∀ x, a1.1 15 x = a.1 15 x := fun x => by rw [ha1, gpi_at, if_neg (by omega)]
    have r16 : ∀ k, a1.1 16 k = if k = K i then nI (g ||| 2 ^ i) else a.1 16 k := fun k => by
      rw [ha1, gpi_at]
      by_cases q : k = K i
      · rw [if_pos ⟨rfl, q⟩, if_pos q]
      · rw [if_neg fun z => q z.2, if_neg q]
    have hg' : ∀ k, k < 8 → ∃ g, g < 1024 ∧ a1.1 16 k = nI g ∧ Bits g (fun b => b < i + 1 ∧ K b = k) := by
      intro k hk
      rw [r16]
      by_cases q : k = K i
      · subst q
        refine ⟨g ||| 2 ^ i, Nat.or_lt_two_pow (n := 10) g1 (Nat.pow_lt_pow_right (by decide) (by omega)), if_pos rfl, g3.or.cg fun b => ⟨?_, ?_⟩⟩
        · rintro (z | rfl)
          · exact ⟨by omega, z.2⟩
          · exact ⟨by omega, rfl⟩
        · rintro ⟨z1, z2⟩
          by_cases e : b = i
          · exact Or.inr e
          · exact Or.inl ⟨by omega, z2⟩
      · obtain ⟨g', h1, h2, h3⟩ := hg k hk
        refine ⟨g', h1, (if_neg q).trans h2, h3.cg fun b => ⟨fun z => ⟨by omega, z.2⟩, fun z => ⟨?_, z.2⟩⟩⟩
        by_cases e : b = i
        · subst e
          exact absurd z.2.symm q
        · omega
    have head : f_Cr_mostCouples_L18 11 (fu + 1) (nI i) a = f_Cr_mostCouples_L47 11 (fun v1 σ => f_Cr_mostCouples_L18 11 fu v1 σ) gfu (nI i) (nI (i + 1)) a1 := by
      rw [f_Cr_mostCouples_L18, hC.1.1, if_neg (nI_ge (a := i) (b := n) hi (by omega)), if_pos (gix_nI (show i < 10 by omega) (by decide)), nI_clamp (show i < 2 ^ 31 by omega)]
      show (if gix (a.1 13 i) 8 = true then if gix (a.1 13 i) 8 = true then gup (gpi a 16 (a.1 13 i).toNatClampNeg (a.1 16 (a.1 13 i).toNatClampNeg ||| nI 1 <<< (nI i &&& nI 31))) _ else none else none) = _
      rw [aK, if_pos (gix_nI k1.2.1 (by decide)), if_pos (gix_nI k1.2.1 (by decide)), nI_clamp (show K i < 2 ^ 31 by omega), g2, sh1 (by omega), nI_or, gupE, ← ha1, gltE]
      show f_Cr_mostCouples_L47 11 (fun v1 σ => f_Cr_mostCouples_L18 11 fu v1 σ) gfu (nI i) (nI i + nI 1) a1 = _
      rw [nI_add]
    have inner := loopG (fun g' j a => f_Cr_mostCouples_L47 11 (fun v1 σ => f_Cr_mostCouples_L18 11 fu v1 σ) g' (nI i) (nI j) a) (fun o => ∃ a', o = f_Cr_mostCouples_L18 11 fu (nI (i + 1)) a' ∧ Fr (fun c _ => c == 15 || c == 16) σ a' ∧ (∀ x, x < n → ∃ f, f < 1024 ∧ a'.1 15 x = nI f ∧ Bits f (fun b => x < i + 1 ∧ x < b ∧ b < n ∧ agr s K W x b)) ∧ ∀ k, k < 8 → ∃ g, g < 1024 ∧ a'.1 16 k = nI g ∧ Bits g (fun b => b < i + 1 ∧ K b = k))
      (fun j t => i + 1 ≤ j ∧ Fr (fun c _ => c == 15 || c == 16) σ t ∧ (∀ k, t.1 16 k = a1.1 16 k) ∧ (∀ x, x ≠ i → t.1 15 x = a.1 15 x) ∧ ∃ f, f < 1024 ∧ t.1 15 i = nI f ∧ Bits f (fun b => i < b ∧ b < j ∧ agr s K W i b)) n (i + 1) a1 (by omega) (by omega) ?_ ?_ ?_
    · obtain ⟨a', e, hh⟩ := inner
      exact ⟨a', head.trans e, hh⟩
    · obtain ⟨f, f1, f2, f3⟩ := hf i hi
      refine ⟨Nat.le_refl _, Fa1, fun k => rfl, fun x _ => r15 x, f, f1, (r15 i).trans f2, f3.cg fun b => ⟨fun q => by omega, fun q => by omega⟩⟩
    · rintro g' j t hj ⟨hij, hFt, t16, t15, f, f1, f2, f3⟩
      left
      have hCt := kp t hFt
      have hag := Cagree hCt hR hi hj
      have j10 : j < 10 := by omega
      have fb : ∀ v, v < 1024 → Bits v (fun b => i < b ∧ b < j + 1 ∧ agr s K W i b) → f_Cr_mostCouples_j78 11 (fun v1 σ => f_Cr_mostCouples_L18 11 fu v1 σ) (fun v1 v2 σ => f_Cr_mostCouples_L47 11 (fun v1 σ => f_Cr_mostCouples_L18 11 fu v1 σ) g' v1 v2 σ) (nI i) (nI j) (nI 0) (nI v) (nI i) t = f_Cr_mostCouples_L47 11 (fun v1 σ => f_Cr_mostCouples_L18 11 fu v1 σ) g' (nI i) (nI (j + 1)) (gpi t 15 i (nI v)) := by
        intro v _ _
        unfold f_Cr_mostCouples_j78
        rw [if_pos (gix_nI (show i < 10 by omega) (by decide)), nI_clamp (show i < 2 ^ 31 by omega), nI_or, Nat.or_zero, gupE, litE, nI_add]
      have fb2 : f_Cr_mostCouples_j78 11 (fun v1 σ => f_Cr_mostCouples_L18 11 fu v1 σ) (fun v1 v2 σ => f_Cr_mostCouples_L47 11 (fun v1 σ => f_Cr_mostCouples_L18 11 fu v1 σ) g' v1 v2 σ) (nI i) (nI j) (nI (2 ^ j)) (nI f) (nI i) t = f_Cr_mostCouples_L47 11 (fun v1 σ => f_Cr_mostCouples_L18 11 fu v1 σ) g' (nI i) (nI (j + 1)) (gpi t 15 i (nI (f ||| 2 ^ j))) := by
        unfold f_Cr_mostCouples_j78
        rw [if_pos (gix_nI (show i < 10 by omega) (by decide)), nI_clamp (show i < 2 ^ 31 by omega), nI_or, gupE, litE, nI_add]
      have base : f_Cr_mostCouples_L47 11 (fun v1 σ => f_Cr_mostCouples_L18 11 fu v1 σ) (g' + 1) (nI i) (nI j) t = if bI (decide (agr s K W i j)) = 0 then f_Cr_mostCouples_j78 11 (fun v1 σ => f_Cr_mostCouples_L18 11 fu v1 σ) (fun v1 v2 σ => f_Cr_mostCouples_L47 11 (fun v1 σ => f_Cr_mostCouples_L18 11 fu v1 σ) g' v1 v2 σ) (nI i) (nI j) (nI 0) (nI f) (nI i) t else f_Cr_mostCouples_j78 11 (fun v1 σ => f_Cr_mostCouples_L18 11 fu v1 σ) (fun v1 v2 σ => f_Cr_mostCouples_L47 11 (fun v1 σ => f_Cr_mostCouples_L18 11 fu v1 σ) g' v1 v2 σ) (nI i) (nI j) (nI (2 ^ j)) (nI f) (nI i) t := by
        rw [f_Cr_mostCouples_L47, hCt.1.1, if_neg (nI_ge (a := j) (b := n) hj (by omega)), if_pos (gix_nI (show i < 10 by omega) (by decide)), hag, bindE, nI_clamp (show i < 2 ^ 31 by omega)]
        show (if bI (decide (agr s K W i j)) = 0 then f_Cr_mostCouples_j78 11 _ _ (nI i) (nI j) (nI 0) (t.1 15 i) (nI i) t else f_Cr_mostCouples_j78 11 _ _ (nI i) (nI j) (nI 1 <<< (nI j &&& nI 31)) (t.1 15 i) (nI i) t) = _
        rw [f2, sh1 (by omega)]
      have upd : ∀ v, v < 1024 → Bits v (fun b => i < b ∧ b < j + 1 ∧ agr s K W i b) → (i + 1 ≤ j + 1 ∧ Fr (fun c _ => c == 15 || c == 16) σ (gpi t 15 i (nI v)) ∧ (∀ k, (gpi t 15 i (nI v)).1 16 k = a1.1 16 k) ∧ (∀ x, x ≠ i → (gpi t 15 i (nI v)).1 15 x = a.1 15 x) ∧ ∃ f, f < 1024 ∧ (gpi t 15 i (nI v)).1 15 i = nI f ∧ Bits f (fun b => i < b ∧ b < j + 1 ∧ agr s K W i b)) := by
        intro v hv hb
        refine ⟨by omega, hFt.pi rfl, fun k => ?_, fun x hx => ?_, v, hv, ?_, hb⟩
        · rw [gpi_at, if_neg (by omega)]
          exact t16 k
        · rw [gpi_at, if_neg (fun z => hx z.2)]
          exact t15 x hx
        · rw [gpi_at, if_pos ⟨rfl, rfl⟩]
      by_cases ta : agr s K W i j
      · have hb2 : Bits (f ||| 2 ^ j) (fun b => i < b ∧ b < j + 1 ∧ agr s K W i b) := f3.or.cg fun b => ⟨fun z => by
            rcases z with z | rfl
            · exact ⟨z.1, by omega, z.2.2⟩
            · exact ⟨by omega, by omega, ta⟩, fun z => by
            by_cases e : b = j
            · exact Or.inr e
            · exact Or.inl ⟨z.1, by omega, z.2.2⟩⟩
        refine ⟨_, ?_, upd (f ||| 2 ^ j) (Nat.or_lt_two_pow (n := 10) f1 (Nat.pow_lt_pow_right (by decide) (by omega))) hb2⟩
        show f_Cr_mostCouples_L47 11 _ (g' + 1) (nI i) (nI j) t = _
        rw [base, decide_eq_true ta, if_neg (show ¬ bI true = 0 by decide), fb2]
      · have hb2 : Bits f (fun b => i < b ∧ b < j + 1 ∧ agr s K W i b) := f3.cg fun b => ⟨fun z => ⟨z.1, by omega, z.2.2⟩, fun z => ⟨z.1, by
            by_cases e : b = j
            · rw [e] at z
              exact absurd z.2.2 ta
            · omega, z.2.2⟩⟩
        refine ⟨_, ?_, upd f f1 hb2⟩
        show f_Cr_mostCouples_L47 11 _ (g' + 1) (nI i) (nI j) t = _
        rw [base, decide_eq_false ta, if_pos (show bI false = 0 by decide), fb f f1 hb2]
    · rintro g' t ⟨hij, hFt, t16, t15, f, f1, f2, f3⟩
      have hCt := kp t hFt
      refine ⟨t, ?_, hFt, fun x hx => ?_, fun k hk => ?_⟩
      · show f_Cr_mostCouples_L47 11 _ (g' + 1) (nI i) (nI n) t = _
        rw [f_Cr_mostCouples_L47, hCt.1.1, if_pos (show nI n ≤ nI n from Int32.le_refl _), litE, nI_add]
      · by_cases q : x = i
        · subst q
          exact ⟨f, f1, f2, f3.cg fun b => ⟨fun z => ⟨by omega, z.1, z.2.1, z.2.2⟩, fun z => ⟨z.2.1, z.2.2.1, z.2.2.2⟩⟩⟩
        · obtain ⟨f', h1, h2, h3⟩ := hf x hx
          exact ⟨f', h1, (t15 x q).trans h2, h3.cg fun b => ⟨fun z => ⟨by omega, z.2⟩, fun z => ⟨by omega, z.2⟩⟩⟩
      · obtain ⟨g', h1, h2, h3⟩ := hg' k hk
        exact ⟨g', h1, (t16 k).trans h2, h3⟩
  · rintro fu a ⟨hF, hf, hg⟩
    have hC := kp a hF
    have hG : FrG a n s K W := ⟨fun x hx => by
      obtain ⟨f, h1, h2, h3⟩ := hf x hx
      exact ⟨f, h1, h2, h3.cg fun b => ⟨fun z => z.2, fun z => ⟨hx, z⟩⟩⟩, hg⟩
    have hc10 := cnt_le (2 ^ n - 1) 10
    have hm := Tmost hC.1.1 hn hG 12 (2 ^ n - 1) hfl (fun j hj => tb_full.mp hj) (by omega)
    have pw := Nat.two_pow_pos n
    refine ⟨a, ?_, hF.sub fun c k q => ?_⟩
    · rw [f_Cr_mostCouples_L18, hC.1.1, if_pos (show nI n ≤ nI n from Int32.le_refl _)]
      show (f_Cr_mostAmong 12 11 (nI 1 <<< (nI n &&& nI 31) - nI 1) a).bind _ = _
      rw [sh1 (by omega), pk_sub (by omega), hm, bindE]
    · cases e : (c == 15 || c == 16) with
      | false => rfl
      | true =>
        simp only [Bool.or_eq_true, beq_iff_eq] at e
        rcases e with rfl | rfl
        · exact absurd q (by rw [show inT [0] 15 k = true from rfl]; decide)
        · exact absurd q (by rw [show inT [0] 16 k = true from rfl]; decide)
