/-! pure: fits -/
def vK (t : Nat) (K : Nat → Nat) (c v j : Nat) : Nat := if t = 2 ∧ j = c then v else K j
def vE (t : Nat) (E : Nat → Nat) (c v j : Nat) : Nat := if ¬ t = 2 ∧ j = c then v else E j
def trd (t : Nat) : Nat := if t = 2 then 8 else 13
theorem trd_le (t : Nat) : trd t ≤ 13 := by
  unfold trd
  split <;> omega
theorem cnt_or (m v : Nat) (h : m.testBit v = false) : ∀ k, cnt (m ||| 2 ^ v) k = cnt m k + (if v < k then 1 else 0)
  | 0 => rfl
  | k + 1 => by
    show cnt (m ||| 2 ^ v) k + (if (m ||| 2 ^ v).testBit k = true then 1 else 0) = cnt m k + (if m.testBit k = true then 1 else 0) + _
    rw [cnt_or m v h k, Nat.testBit_or, Nat.testBit_two_pow]
    by_cases e : v = k
    · subst e
      rw [h, if_neg (show ¬ v < v by omega), if_pos (show v < v + 1 by omega), decide_eq_true rfl]
      simp
    · rw [decide_eq_false e, Bool.or_false]
      by_cases l : v < k
      · rw [if_pos l, if_pos (show v < k + 1 by omega)]
        omega
      · rw [if_neg l, if_neg (show ¬ v < k + 1 by omega)]
        omega
/-- v fits: all y days are as told -/
def Ft (q y : Nat) (hs : Nat → Nat → Nat) (u : Nat → Int64) (v : Nat) : Prop := ∀ j, j < y → As q (hs v) u j
theorem vRg {σ : gS} {n : Nat} {K E P : Nat → Nat} {B : Nat → Int32} {F W D : Nat} (hP : PM σ n K E P B F W D) {V : VT} {t c v w d : Nat} (ht : v < trd t) (hw : w < 6) : Rg n (sy V (vK t K c v) (vE t E c v) P B w d) (vK t K c v) W := by
  refine ⟨hP.1.1, hP.2.2.2.1.1, fun j hj => ⟨spk_lt (hP.2.1 j hj).1.2.2.2 hw, ?_⟩⟩
  unfold vK
  unfold trd at ht
  split
  · rename_i h
    rw [if_pos h.1] at ht
    exact ht
  · exact (hP.2.1 j hj).1.1
theorem fit_sets (n : Nat) (V : VT) (K E P : Nat → Nat) (B : Nat → Int32) (W D : Nat) (x : Nat → Int64) (t c : Nat) (hR : ∀ v w d, v < trd t → w < 6 → Rg n (sy V (vK t K c v) (vE t E c v) P B w d) (vK t K c v) W) (q : Nat) (h1 : ∀ i, i < q → bv x i < 6) : ∃ hs : Nat → Nat → Nat, ∀ v, v < trd t → ∀ i, i < q → Bits (hs v i) (Hp n (sy V (vK t K c v) (vE t E c v) P B (bv x i) (min 99 (D + i))) (vK t K c v) W (fun _ => True)) := by
  have : ∀ v, ∃ hv : Nat → Nat, v < trd t → ∀ i, i < q → Bits (hv i) (Hp n (sy V (vK t K c v) (vE t E c v) P B (bv x i) (min 99 (D + i))) (vK t K c v) W (fun _ => True)) := by
    intro v
    by_cases hv : v < trd t
    · obtain ⟨hs, h⟩ := day_sets n V (vK t K c v) (vE t E c v) P B W D x 0 (fun w d hw => hR v w d hv hw) q h1
      exact ⟨hs, fun _ => h⟩
    · exact ⟨fun _ => 0, fun q => absurd q hv⟩
  obtain ⟨f, hf⟩ := Classical.axiomOfChoice this
  exact ⟨f, hf⟩
/-- the crowd: all as they are, but citizen c -/
def CSx (τ : gS) (n : Nat) (s K : Nat → Nat) (W c : Nat) : Prop := (τ.1 11 2 = nI n ∧ τ.1 11 3 = nI W) ∧ ∀ j, j < n → j ≠ c → τ.1 12 j = nI (s j) ∧ τ.1 13 j = nI (K j)
theorem Tfit_in {σ : gS} {n : Nat} {K E P : Nat → Nat} {B : Nat → Int32} {F W D m : Nat} {V : VT} (h : Ctx σ n K E P B F W D m V) {a b z y q t c i f : Nat} {x u : Nat → Int64} (ha : a < 6) (hb : b < 6) (hB : BRow σ a z x) (hB2 : BRow σ b y u) (ht : t < 3) (hc : c < n) (hi : i < q) (hiy : i < y) (h1 : ∀ i, i < q → bval x z 6 i) {hs : Nat → Nat → Nat} (hhs : ∀ v, v < trd t → ∀ i, i < q → Bits (hs v i) (Hp n (sy V (vK t K c v) (vE t E c v) P B (bv x i) (min 99 (D + i))) (vK t K c v) W (fun _ => True)))
    (s : gS) (hF : Frs σ s) (hX : CSx s n (sy V K E P B (bv x i) (min 99 (D + i))) K W c) (hf : Bits f (fun v => v < trd t ∧ ∀ j, j < i → As q (hs v) u j)) (k : Int32 → Int32 → Int32 → Int32 → Int32 → Int32 → gS → Option (Int32 × gS)) :
    ∃ f' τ, f_T_fitting_L84 (47 + 2 * a) (47 + 2 * b) k gfu (nI c) (if t = 2 then nI 1 else nI 0) (nI (trd t)) (nI f) (nI q) (nI i) (nI (min 99 (D + i))) (nI 0) s = k (nI c) (if t = 2 then nI 1 else nI 0) (nI (trd t)) (nI f') (nI q) (nI (i + 1)) τ ∧ Frs σ τ ∧ Bits f' (fun v => v < trd t ∧ ∀ j, j < i + 1 → As q (hs v) u j) := by
  have htr := trd_le t
  have hn := h.1.1.1
  refine loopG (fun fu v (p : Nat × gS) => f_T_fitting_L84 (47 + 2 * a) (47 + 2 * b) k fu (nI c) (if t = 2 then nI 1 else nI 0) (nI (trd t)) (nI p.1) (nI q) (nI i) (nI (min 99 (D + i))) (nI v) p.2) (fun o => ∃ f' τ, o = k (nI c) (if t = 2 then nI 1 else nI 0) (nI (trd t)) (nI f') (nI q) (nI (i + 1)) τ ∧ Frs σ τ ∧ Bits f' (fun v => v < trd t ∧ ∀ j, j < i + 1 → As q (hs v) u j))
    (fun v p => Frs σ p.2 ∧ CSx p.2 n (sy V K E P B (bv x i) (min 99 (D + i))) K W c ∧ Bits p.1 (fun v' => v' < trd t ∧ (∀ j, j < i → As q (hs v') u j) ∧ (v' < v → As q (hs v') u i))) (trd t) 0 (f, s) (by omega) (by omega) ⟨hF, hX, hf.cg fun v => ⟨fun y => ⟨y.1, y.2, fun q => absurd q (Nat.not_lt_zero v)⟩, fun y => ⟨y.1, y.2.1⟩⟩⟩ ?_ ?_
  · rintro fu v ⟨f, s⟩ hv ⟨hF, hX, hf⟩
    left
    simp only at hF hX hf
    have hC := h.fr hF
    have hBa := hB.fr ha hF
    have hBb := hB2.fr hb hF
    have hD : D < 100 := h.1.2.2.2.2.1
    obtain ⟨b1, b2, b3, b4⟩ := bval.v hBa (h1 i hi)
    have hf13 : f < 8192 := hf.lt (k := 13) fun v hv => by omega
    have hKc := (hC.1.2.1 c hc).2.1
    have hEc := (h.1.2.1 c hc).1.2.1
    have hKc8 := (h.1.2.1 c hc).1.1
    -- the kin and the eye that are tried
    have kin : vK t K c v c = if t = 2 then v else K c := by
      unfold vK
      by_cases q : t = 2
      · rw [if_pos ⟨q, rfl⟩, if_pos q]
      · rw [if_neg (fun z => q z.1), if_neg q]
    have eye : vE t E c v c = if t = 2 then E c else v := by
      unfold vE
      by_cases q : t = 2
      · rw [if_neg (fun z => z.1 q), if_pos q]
      · rw [if_pos ⟨q, rfl⟩, if_neg q]
    have kin8 : vK t K c v c < 8 := by
      rw [kin]
      split
      · rename_i q
        unfold trd at hv
        rw [if_pos q] at hv
        exact hv
      · exact hKc8
    have eye13 : vE t E c v c < 13 := by
      rw [eye]
      split
      · exact hEc
      · omega
    obtain ⟨s1, hs1⟩ : ∃ s1, s1 = gpi s 13 c (nI (vK t K c v c)) := ⟨_, rfl⟩
    have F1 : Frs s s1 := by
      rw [hs1]
      exact (Fr.rf _ s).pi rfl
    have hC1 := hC.fr F1
    have hB1 := hBa.fr ha F1
    obtain ⟨s2, e1, e2⟩ := Tspeech hC1.1 hC1.2.1 (c := c) (k := vK t K c v c) (e := vE t E c v c) (w := bv x i) (d := min 99 (D + i)) hc kin8 eye13 b2 (by omega)
    obtain ⟨s3, hs3⟩ : ∃ s3, s3 = gpi s2 12 c (nI (spk V (B c) (bv x i) (vE t E c v c) (vK t K c v c) (P c) (min 99 (D + i)) c)) := ⟨_, rfl⟩
    have F2 : Frs s1 s2 := fr_no e2 fun a k q => cGa_s (Or.inl rfl) a k (by unfold cGa; rw [q]; rfl)
    have F3 : Frs s2 s3 := by
      rw [hs3]
      exact (Fr.rf _ s2).pi rfl
    have o : ∀ a k, a ≠ 6 → a ≠ 9 → a ≠ 10 → s2.1 a k = s1.1 a k := fun a k x1 x2 x3 => e2.1 a k (by
      unfold cSp
      simp [x1, x2, x3])
    have hCS : CS 11 s3 n (sy V (vK t K c v) (vE t E c v) P B (bv x i) (min 99 (D + i))) (vK t K c v) W := by
      refine ⟨⟨?_, ?_⟩, fun j hj => ⟨?_, ?_⟩⟩
      · rw [hs3, gpi_at, if_neg (by omega), o 11 2 (by omega) (by omega) (by omega), hs1, gpi_at, if_neg (by omega)]
        exact hX.1.1
      · rw [hs3, gpi_at, if_neg (by omega), o 11 3 (by omega) (by omega) (by omega), hs1, gpi_at, if_neg (by omega)]
        exact hX.1.2
      · rw [hs3, gpi_at]
        by_cases e : j = c
        · subst e
          rw [if_pos ⟨rfl, rfl⟩]
          rfl
        · rw [if_neg (fun z => e z.2), o 12 j (by omega) (by omega) (by omega), hs1, gpi_at, if_neg (by omega), (hX.2 j hj e).1]
          unfold sy vK vE
          rw [if_neg (fun z => e z.2), if_neg (fun z => e z.2)]
      · rw [hs3, gpi_at, if_neg (by omega), o 13 j (by omega) (by omega) (by omega), hs1, gpi_at]
        by_cases e : j = c
        · subst e
          rw [if_pos ⟨rfl, rfl⟩]
        · rw [if_neg (fun z => e z.2), (hX.2 j hj e).2]
          unfold vK
          rw [if_neg (fun z => e z.2)]
    have hr : Rg n (sy V (vK t K c v) (vE t E c v) P B (bv x i) (min 99 (D + i))) (vK t K c v) W := vRg h.1.pm hv b2
    obtain ⟨g, s4, g1, g2, g3⟩ := Call_h hCS hr
    have hgv := g2.eq (hhs v hv i hi)
    rw [hgv] at g1
    have hx6 : hs v i < 64 := (hhs v hv i hi).lt6 (Hp.lt hr)
    have F4 : Frs s3 s4 := fr_no g3 (only_s (by omega))
    have FF : Frs s s4 := ((F1.tr F2).tr F3).tr F4
    have hB4 := hBb.fr hb FF
    have sm1 := small_eq hB1 (show i < 1000 by have := hB2.1; omega)
    rw [b1] at sm1
    have sm2 := small_eq hB4 (show i < 1000 by have := hB2.1; omega)
    have tc := told_c hB4 hiy hx6
    have hX4 : CSx s4 n (sy V K E P B (bv x i) (min 99 (D + i))) K W c := by
      refine ⟨⟨(only_ne g3 (by decide) 2).trans hCS.1.1, (only_ne g3 (by decide) 3).trans hCS.1.2⟩, fun j hj e => ⟨?_, ?_⟩⟩
      · rw [only_ne g3 (by decide), (hCS.2 j hj).1]
        unfold sy vK vE
        rw [if_neg (fun z => e z.2), if_neg (fun z => e z.2)]
      · rw [only_ne g3 (by decide), (hCS.2 j hj).2]
        unfold vK
        rw [if_neg (fun z => e z.2)]
    have hq1 : ¬ trd t ≤ v := by omega
    have hjj : ∀ fu, f_T_fitting_j131 (47 + 2 * a) (47 + 2 * b) k (fun v3 v4 v5 v6 v7 v8 v9 v10 σ => f_T_fitting_L84 (47 + 2 * a) (47 + 2 * b) k fu v3 v4 v5 v6 v7 v8 v9 v10 σ) (nI c) (if t = 2 then nI 1 else nI 0) (nI (trd t)) (nI f) (nI q) (nI i) (nI (min 99 (D + i))) (nI v) (nI (vK t K c v c)) (nI (vE t E c v c)) s = f_T_fitting_L84 (47 + 2 * a) (47 + 2 * b) k fu (nI c) (if t = 2 then nI 1 else nI 0) (nI (trd t)) (nI (if (u i).toInt = (hs v i : Int) then f else f &&& (2 ^ v ^^^ 4294967295))) (nI q) (nI i) (nI (min 99 (D + i))) (nI (v + 1)) s4 := by
      intro fu
      unfold f_T_fitting_j131
      rw [if_pos (gix_nI (show c < 10 by omega) (by decide)), gupE, nI_clamp (show c < 2 ^ 31 by omega), ← hs1, sm1, bindE, e1, bindE, if_pos (gix_nI (show c < 10 by omega) (by decide)), gupE, ← hs3, show (10 : Int32) = nI 10 from rfl, g1, bindE, sm2, bindE]
      by_cases has : (u i).toInt = (hs v i : Int)
      · rw [if_pos (by rw [tc]; exact has), if_pos has, litE, nI_add]
      · rw [if_neg (by rw [tc]; exact has), if_neg has, gltE]
        simp (disch := omega) only [litE, sh1, nI_m1]
        simp only [nI_xor, nI_and, nI_add]
    refine ⟨(if (u i).toInt = (hs v i : Int) then f else f &&& (2 ^ v ^^^ 4294967295), s4), ?_, hF.tr FF, hX4, ?_⟩
    · show f_T_fitting_L84 (47 + 2 * a) (47 + 2 * b) k (fu + 1) (nI c) (if t = 2 then nI 1 else nI 0) (nI (trd t)) (nI f) (nI q) (nI i) (nI (min 99 (D + i))) (nI v) s = _
      rw [← hjj fu]
      by_cases t2 : t = 2
      · subst t2
        rw [kin, eye, if_pos rfl, if_pos rfl, if_pos rfl]
        have n10 : ¬ nI 1 = nI 0 := by decide
        have q1 : ¬ trd 2 ≤ v := hq1
        simp (maxSteps := 2000000) (disch := omega) only [f_T_fitting_L84, f_T_fitting_j110, gupE, gltE, gllE, litE, litLE, bindE, ↓reduceIte, gsi_at, gsi_l2, gsl_at, gsl_i1, upd_at, updL_at, Nat.reduceEqDiff, gix_nI, nI_clamp, bI_0, bI_gzb, Bool.true_eq_false, Bool.false_eq_true, nI_leI, q1, n10, hKc]
      · rw [kin, eye, if_neg t2, if_neg t2, if_neg t2]
        simp (maxSteps := 2000000) (disch := omega) only [f_T_fitting_L84, f_T_fitting_j110, gupE, gltE, gllE, litE, litLE, bindE, ↓reduceIte, gsi_at, gsi_l2, gsl_at, gsl_i1, upd_at, updL_at, Nat.reduceEqDiff, gix_nI, nI_clamp, bI_0, bI_gzb, Bool.true_eq_false, Bool.false_eq_true, nI_leI, hq1, hKc]
    · intro w
      show (if (u i).toInt = (hs v i : Int) then f else f &&& (2 ^ v ^^^ 4294967295)).testBit w = true ↔ _
      by_cases has : (u i).toInt = (hs v i : Int)
      · rw [if_pos has, hf w]
        constructor
        · rintro ⟨p1, p2, p3⟩
          refine ⟨p1, p2, fun hl => ?_⟩
          by_cases e : w = v
          · subst e
            exact ⟨hi, has⟩
          · exact p3 (by omega)
        · rintro ⟨p1, p2, p3⟩
          exact ⟨p1, p2, fun hl => p3 (by omega)⟩
      · rw [if_neg has, Nat.testBit_and, Nat.testBit_xor, Nat.testBit_two_pow, Bool.and_eq_true, hf w]
        constructor
        · rintro ⟨⟨p1, p2, p3⟩, p4⟩
          refine ⟨p1, p2, fun hl => ?_⟩
          by_cases e : w = v
          · subst e
            rw [decide_eq_true rfl, show 4294967295 = 2 ^ 32 - 1 from rfl, tb_full.mpr (show w < 32 by omega)] at p4
            cases p4
          · exact p3 (by omega)
        · rintro ⟨p1, p2, p3⟩
          refine ⟨⟨p1, p2, fun hl => p3 (by omega)⟩, ?_⟩
          have e : ¬ v = w := fun e => has (p3 (by omega) |> fun z => e ▸ z.2)
          rw [decide_eq_false e, show 4294967295 = 2 ^ 32 - 1 from rfl, tb_full.mpr (show w < 32 by omega)]
          rfl
  · rintro fu ⟨f, s⟩ ⟨hF, hX, hf⟩
    simp only at hF hX hf
    refine ⟨f, s, ?_, hF, hf.cg fun v => ?_⟩
    · have g1 : nI (trd t) ≤ nI (trd t) := Int32.le_refl _
      simp (maxSteps := 2000000) (disch := omega) only [f_T_fitting_L84, gupE, gltE, gllE, litE, litLE, bindE, ↓reduceIte, gsi_at, gsi_l2, gsl_at, gsl_i1, upd_at, updL_at, Nat.reduceEqDiff, gix_nI, nI_clamp, bI_0, bI_gzb, Bool.true_eq_false, Bool.false_eq_true, g1, nI_add]
    · constructor
      · rintro ⟨p1, p2, p3⟩
        refine ⟨p1, fun j hj => ?_⟩
        by_cases e : j = i
        · subst e
          exact p3 p1
        · exact p2 j (by omega)
      · rintro ⟨p1, p2⟩
        exact ⟨p1, fun j hj => p2 j (by omega), fun _ => p2 i (by omega)⟩
