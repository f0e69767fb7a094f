/-! pure: citizens -/
/-- the k-th three is of a citizen -/
def three (x : Nat → Int64) (z p : Nat) : Prop := p + 3 ≤ z ∧ bval x z 8 p ∧ bval x z 13 (p + 1) ∧ bval x z 100 (p + 2)
theorem takes3g {σ : gS} {d z p : Nat} {x : Nat → Int64} (hB : BRow σ d z x) (hp : p + 3 ≤ z) (g : Nat) : ∃ r, f_Isl_welcomeThree_L2 (47 + 2 * d) (g + 1 + 1 + 1 + 1) (nI p) (nI 0) σ = r ∧ ((three x z p ∧ r = f_Isl_welcome (nI (bv x p)) (nI (bv x (p + 1))) (nI (bv x (p + 2))) σ) ∨ (¬ three x z p ∧ r = some (-nI 1, σ))) := by
  have hz := hB.1
  have s0 := small_eq hB (show p < 1000 by omega)
  have s1 := small_eq hB (show p + 1 < 1000 by omega)
  have s2 := small_eq hB (show p + 2 < 1000 by omega)
  have i0 := bval_in hB p (show 8 < 1000 by omega)
  have i1 := bval_in hB (p + 1) (show 13 < 1000 by omega)
  have i2 := bval_in hB (p + 2) (show 100 < 1000 by omega)
  have q0 : ¬ 3 ≤ 0 := by omega
  have q1 : ¬ 3 ≤ 0 + 1 := by omega
  have q2 : ¬ 3 ≤ 0 + 1 + 1 := by omega
  have q3 : 3 ≤ 0 + 1 + 1 + 1 := by omega
  have t0 : ∀ v, f_Isl_takes (nI 0) v σ = some (bI (inb v 8)) := fun v => by rw [takes_eq (by decide) v σ, okv0]
  have t1 : ∀ v, f_Isl_takes (nI 1) v σ = some (bI (inb v 13)) := fun v => by rw [takes_eq (by decide) v σ, okv1]
  have t2 : ∀ v, f_Isl_takes (nI 2) v σ = some (bI (inb v 100)) := fun v => by rw [takes_eq (by decide) v σ, okv2]
  refine ⟨_, rfl, ?_⟩
  cases e0 : inb (sml x z p) 8 with
  | false =>
    right
    refine ⟨fun h => (by rw [i0.mpr h.2.1] at e0; cases e0), ?_⟩
    simp (maxSteps := 2000000) (disch := omega) only [f_Isl_welcomeThree_L2, gupE, gltE, gllE, litE, litLE, bindE, ↓reduceIte, gsi_at, gsi_l2, gsl_at, gsl_i1, upd_at, updL_at, Nat.reduceEqDiff, gix_nI, nI_clamp, bI_0, bI_gzb, Bool.true_eq_false, Bool.false_eq_true, nI_leI, q0, nI_add, Nat.add_zero, s0, t0, e0]
  | true =>
    cases e1 : inb (sml x z (p + 1)) 13 with
    | false =>
      right
      refine ⟨fun h => (by rw [i1.mpr h.2.2.1] at e1; cases e1), ?_⟩
      simp (maxSteps := 2000000) (disch := omega) only [f_Isl_welcomeThree_L2, gupE, gltE, gllE, litE, litLE, bindE, ↓reduceIte, gsi_at, gsi_l2, gsl_at, gsl_i1, upd_at, updL_at, Nat.reduceEqDiff, gix_nI, nI_clamp, bI_0, bI_gzb, Bool.true_eq_false, Bool.false_eq_true, nI_leI, q0, q1, nI_add, Nat.add_zero, Nat.zero_add, s0, s1, t0, t1, e0, e1]
    | true =>
      cases e2 : inb (sml x z (p + 2)) 100 with
      | false =>
        right
        refine ⟨fun h => (by rw [i2.mpr h.2.2.2] at e2; cases e2), ?_⟩
        simp (maxSteps := 2000000) (disch := omega) only [f_Isl_welcomeThree_L2, gupE, gltE, gllE, litE, litLE, bindE, ↓reduceIte, gsi_at, gsi_l2, gsl_at, gsl_i1, upd_at, updL_at, Nat.reduceEqDiff, gix_nI, nI_clamp, bI_0, bI_gzb, Bool.true_eq_false, Bool.false_eq_true, nI_leI, q0, q1, q2, nI_add, Nat.add_zero, Nat.zero_add, Nat.reduceAdd, Nat.reduceLeDiff, s0, s1, s2, t0, t1, t2, e0, e1, e2]
      | true =>
        left
        have b0 := i0.mp e0
        have b1 := i1.mp e1
        have b2 := i2.mp e2
        obtain ⟨c0, -⟩ := bval.v hB b0
        obtain ⟨c1, -⟩ := bval.v hB b1
        obtain ⟨c2, -⟩ := bval.v hB b2
        refine ⟨⟨hp, b0, b1, b2⟩, ?_⟩
        have hbe : ∀ o : Option (Int32 × gS), (o.bind fun q => some (q.1, q.2)) = o := fun o => by cases o <;> rfl
        simp (maxSteps := 2000000) (disch := omega) only [f_Isl_welcomeThree_L2, gupE, gltE, gllE, litE, litLE, bindE, ↓reduceIte, gsi_at, gsi_l2, gsl_at, gsl_i1, upd_at, updL_at, Nat.reduceEqDiff, gix_nI, nI_clamp, bI_0, bI_gzb, Bool.true_eq_false, Bool.false_eq_true, nI_leI, q0, q1, q2, nI_add, Nat.add_zero, Nat.zero_add, Nat.reduceAdd, Nat.reduceLeDiff, s0, s1, s2, t0, t1, t2, e0, e1, e2]
        rw [c0, c1, c2, hbe]
theorem takes3 {σ : gS} {d z p : Nat} {x : Nat → Int64} (hB : BRow σ d z x) (hp : p + 3 ≤ z) : ∃ r, f_Isl_welcomeThree_L2 (47 + 2 * d) gfu (nI p) (nI 0) σ = r ∧ ((three x z p ∧ r = f_Isl_welcome (nI (bv x p)) (nI (bv x (p + 1))) (nI (bv x (p + 2))) σ) ∨ (¬ three x z p ∧ r = some (-nI 1, σ))) := takes3g hB hp 1996
theorem mayCome3 (a b c : Int64) : f_M_mayCome a b c = some (bI (decide (0 ≤ a.toInt ∧ a.toInt ≤ ((7 : Nat) : Int)) && (decide (0 ≤ b.toInt ∧ b.toInt ≤ ((12 : Nat) : Int)) && decide (0 ≤ c.toInt ∧ c.toInt ≤ ((99 : Nat) : Int))))) := by
  have w : ∀ (x : Int64) (k : Nat), k < 1000 → f_M_within x (lN 0) (lN k) = some (bI (decide (0 ≤ x.toInt ∧ x.toInt ≤ (k : Int)))) := by
    intro x k hk
    rw [Mwithin, lN_tI (by decide), lN_tI (by omega), Bool.decide_and]
    rfl
  have w7 := w a 7 (by decide)
  have w12 := w b 12 (by decide)
  have w99 := w c 99 (by decide)
  generalize decide (0 ≤ a.toInt ∧ a.toInt ≤ ((7 : Nat) : Int)) = A at w7 ⊢
  generalize decide (0 ≤ b.toInt ∧ b.toInt ≤ ((12 : Nat) : Int)) = Bb at w12 ⊢
  generalize decide (0 ≤ c.toInt ∧ c.toInt ≤ ((99 : Nat) : Int)) = C at w99 ⊢
  unfold f_M_mayCome
  simp only [litLE, litE, w7, bindE, bI_0]
  cases A with
  | false => rfl
  | true =>
    simp only [w12, bindE, bI_0, Bool.true_eq_false, ↓reduceIte]
    cases Bb with
    | false => rfl
    | true =>
      simp only [w99, bindE, bI_0, Bool.true_eq_false, ↓reduceIte]
      cases C with
      | false => rfl
      | true => rfl
theorem three_c {σ : gS} {d z p : Nat} {x : Nat → Int64} (hB : MRow σ d z x) (hp : p + 3 ≤ z) : (f_M_mayCome (x p) (x (p + 1)) (x (p + 2)) = some (nI 1) ∧ three x z p) ∨ (f_M_mayCome (x p) (x (p + 1)) (x (p + 2)) = some (nI 0) ∧ ¬ three x z p) := by
  rw [mayCome3]
  unfold three bval
  by_cases q1 : 0 ≤ (x p).toInt ∧ (x p).toInt ≤ ((7 : Nat) : Int)
  · by_cases q2 : 0 ≤ (x (p + 1)).toInt ∧ (x (p + 1)).toInt ≤ ((12 : Nat) : Int)
    · by_cases q3 : 0 ≤ (x (p + 2)).toInt ∧ (x (p + 2)).toInt ≤ ((99 : Nat) : Int)
      · left
        rw [decide_eq_true q1, decide_eq_true q2, decide_eq_true q3]
        exact ⟨rfl, hp, by omega, by omega, by omega⟩
      · right
        rw [decide_eq_true q1, decide_eq_true q2, decide_eq_false q3]
        exact ⟨rfl, fun h => q3 (by omega)⟩
    · right
      rw [decide_eq_true q1, decide_eq_false q2]
      exact ⟨rfl, fun h => q2 (by omega)⟩
  · right
    rw [decide_eq_false q1]
    exact ⟨rfl, fun h => q1 (by omega)⟩
/-- so many more citizens, class and reference each by its own cells -/
def PT (σ : gS) (n : Nat) (K E P : Nat → Nat) (B : Nat → Int32) : Prop := σ.1 1 6 = nI n ∧ ∀ c, c < n → (K c < 8 ∧ E c < 13 ∧ P c < 100 ∧ bok (B c)) ∧ σ.1 2 c = nI (K c) ∧ σ.1 3 c = nI (E c) ∧ σ.1 4 c = nI (P c) ∧ σ.1 5 c = B c
def PR (σ : gS) (n : Nat) (K E P : Nat → Nat) (B : Nat → Int32) : Prop := σ.1 59 6 = nI n ∧ ∀ c, c < n → σ.1 60 c = nI (K c) ∧ σ.1 60 (10 + c) = nI (E c) ∧ σ.1 60 (20 + c) = nI (P c) ∧ σ.1 60 (30 + c) = B c
def xK (K : Nat → Nat) (n : Nat) (x : Nat → Int64) (p c : Nat) : Nat := if c < n then K c else bv x (p + 3 * (c - n))
def xE (E : Nat → Nat) (n : Nat) (x : Nat → Int64) (p c : Nat) : Nat := if c < n then E c else bv x (p + 3 * (c - n) + 1)
def xP (P : Nat → Nat) (n : Nat) (x : Nat → Int64) (p c : Nat) : Nat := if c < n then P c else bv x (p + 3 * (c - n) + 2)
def xB (B : Nat → Int32) (n c : Nat) : Int32 := if c < n then B c else -1
def cCt (c k : Nat) : Bool := c == 2 || c == 3 || c == 4 || c == 5 || (c == 1) && (k == 6)
def cCm (c k : Nat) : Bool := (c == 60) && decide (k < 40) || (c == 59) && (k == 6)
/-- how many come: r -/
def Cms (x : Nat → Int64) (z n p k r : Nat) : Prop := r ≤ k ∧ (∀ j, j < r → n + j < 10 ∧ three x z (p + 3 * j)) ∧ (r = k ∨ ¬ (n + r < 10 ∧ three x z (p + 3 * r)))
theorem Cms.eq {x : Nat → Int64} {z n p k r r' : Nat} (h : Cms x z n p k r) (h' : Cms x z n p k r') : r = r' := by
  rcases Nat.lt_or_ge r r' with l | l
  · rcases h.2.2 with e | e
    · have := h'.1
      omega
    · exact absurd (h'.2.1 r l) e
  · rcases Nat.lt_or_ge r' r with l2 | l2
    · rcases h'.2.2 with e | e
      · have := h.1
        omega
      · exact absurd (h.2.1 r' l2) e
    · omega
theorem Tcit_L {σ : gS} {d z n p k : Nat} {x : Nat → Int64} {K E P : Nat → Nat} {B : Nat → Int32} (hB : BRow σ d z x) (hd : d < 6) (hP : PT σ n K E P B) (hn : n ≤ 10) (hp : p < 2147483000) (hk : k ≤ 10) :
    ∃ r τ, f_T_citizens_L57 gfu (nI k) (47 + 2 * d) (nI 0) (nI p) σ = some (nI r, τ) ∧ Cms x z n p k r ∧ PT τ (n + r) (xK K n x p) (xE E n x p) (xP P n x p) (xB B n) ∧ Fr cCt σ τ := by
  have base : PT σ (n + 0) (xK K n x p) (xE E n x p) (xP P n x p) (xB B n) := by
    refine ⟨hP.1, fun c hc => ?_⟩
    have h := hP.2 c hc
    unfold xK xE xP xB
    rw [if_pos (show c < n from hc), if_pos (show c < n from hc), if_pos (show c < n from hc), if_pos (show c < n from hc)]
    exact h
  refine loopG (fun fu i a => f_T_citizens_L57 fu (nI k) (47 + 2 * d) (nI i) (nI (p + 3 * i)) a) (fun o => ∃ r τ, o = some (nI r, τ) ∧ Cms x z n p k r ∧ PT τ (n + r) (xK K n x p) (xE E n x p) (xP P n x p) (xB B n) ∧ Fr cCt σ τ)
    (fun i a => (∀ j, j < i → n + j < 10 ∧ three x z (p + 3 * j)) ∧ PT a (n + i) (xK K n x p) (xE E n x p) (xP P n x p) (xB B n) ∧ Fr cCt σ a) k 0 σ (by omega) (by omega) ⟨fun j h => absurd h (Nat.not_lt_zero j), base, Fr.rf _ _⟩ ?_ ?_
  · rintro fu i a hi ⟨h1, h2, hF⟩
    have n47 : ∀ k, cCt (47 + 2 * d) k = false := fun k => by
      unfold cCt
      simp only [Bool.or_eq_false_iff, Bool.and_eq_false_iff, beq_eq_false_iff_ne]
      omega
    have n48 : ∀ k, cCt (48 + 2 * d) k = false := fun k => by
      unfold cCt
      simp only [Bool.or_eq_false_iff, Bool.and_eq_false_iff, beq_eq_false_iff_ne]
      omega
    have hBa : BRow a d z x := by
      obtain ⟨b1, b2, b3, b4⟩ := hB
      exact ⟨b1, by rw [hF.1 _ _ (n47 _)]; exact b2, by rw [hF.1 77 d rfl]; exact b3, fun i hi => by rw [hF.2 _ _ (n48 _), hF.2 78 _ rfl]; exact b4 i hi⟩
    have hz := hBa.1
    have q1 : ¬ k ≤ i := by omega
    have hh := has_gen (c := 47 + 2 * d) hBa.2.1 hz (nI (p + 3 * i)) (nI 3)
    have hhb : hasb z (nI (p + 3 * i)) (nI 3) = decide (p + 3 * i + 3 ≤ z) := by
      unfold hasb
      rw [nI_toInt (by omega), nI_toInt (by decide)]
      by_cases q : p + 3 * i + 3 ≤ z
      · rw [decide_eq_true q, decide_eq_true (by omega)]
      · rw [decide_eq_false q, decide_eq_false (by omega)]
    rw [hhb] at hh
    have hwt : ∀ s, f_Isl_welcomeThree (47 + 2 * d) (nI (p + 3 * i)) s = f_Isl_welcomeThree_L2 (47 + 2 * d) gfu (nI (p + 3 * i)) (nI 0) s := fun s => by
      unfold f_Isl_welcomeThree
      rw [litE]
    by_cases q3 : p + 3 * i + 3 ≤ z
    · obtain ⟨r, e1, e2⟩ := takes3 hBa q3
      rw [decide_eq_true q3] at hh
      rcases e2 with ⟨t3, er⟩ | ⟨t3, er⟩
      · by_cases h10 : n + i < 10
        · left
          obtain ⟨c0, c1, c2, c3⟩ := bval.v hBa t3.2.1
          obtain ⟨d0, d1, d2, d3⟩ := bval.v hBa t3.2.2.1
          obtain ⟨f0, f1, f2, f3⟩ := bval.v hBa t3.2.2.2
          have hwe := welcome_eq h2.1 (nI (bv x (p + 3 * i))) (nI (bv x (p + 3 * i + 1))) (nI (bv x (p + 3 * i + 2))) h10
          rw [← er, ← e1] at hwe
          obtain ⟨τ, hτ⟩ : ∃ τ, τ = gpi (gpi (gpi (gpi (gpi a 2 (n + i) (nI (bv x (p + 3 * i)))) 3 (n + i) (nI (bv x (p + 3 * i + 1)))) 4 (n + i) (nI (bv x (p + 3 * i + 2)))) 5 (n + i) (-1)) 1 6 (nI (n + i + 1)) := ⟨_, rfl⟩
          rw [← hτ] at hwe
          have r1 : ∀ c j, τ.1 c j = if c = 1 ∧ j = 6 then nI (n + i + 1) else if c = 5 ∧ j = n + i then -1 else if c = 4 ∧ j = n + i then nI (bv x (p + 3 * i + 2)) else if c = 3 ∧ j = n + i then nI (bv x (p + 3 * i + 1)) else if c = 2 ∧ j = n + i then nI (bv x (p + 3 * i)) else a.1 c j := fun c j => by
            rw [hτ, gpi_at, gpi_at, gpi_at, gpi_at, gpi_at]
          have ng : ¬ nI (n + i) < nI 0 := nI_pos (by omega)
          refine ⟨τ, ?_, fun j hj => ?_, ⟨?_, fun c hc => ?_⟩, hF.tr ?_⟩
          · have e5 : p + 3 * i + 3 = p + 3 * (i + 1) := by omega
            simp (maxSteps := 2000000) (disch := omega) only [f_T_citizens_L57, gupE, gltE, gllE, litE, litLE, bindE, ↓reduceIte, gsi_at, gsi_l2, gsl_at, gsl_i1, upd_at, updL_at, Nat.reduceEqDiff, gix_nI, nI_clamp, bI_0, bI_gzb, Bool.true_eq_false, Bool.false_eq_true, nI_leI, q1, hh, hwt, hwe, ng, nI_add, e5]
          · by_cases e : j = i
            · rw [e]
              exact ⟨h10, t3⟩
            · exact h1 j (by omega)
          · rw [r1, if_pos ⟨rfl, rfl⟩]
            rfl
          · rw [r1, r1, r1, r1]
            by_cases e : c = n + i
            · subst e
              rw [if_neg (by omega), if_neg (by omega), if_neg (by omega), if_neg (by omega), if_pos ⟨rfl, rfl⟩, if_neg (by omega), if_neg (by omega), if_neg (by omega), if_pos ⟨rfl, rfl⟩, if_neg (by omega), if_neg (by omega), if_pos ⟨rfl, rfl⟩, if_neg (by omega), if_pos ⟨rfl, rfl⟩]
              unfold xK xE xP xB
              have e6 : n + i - n = i := by omega
              rw [if_neg (show ¬ n + i < n by omega), if_neg (show ¬ n + i < n by omega), if_neg (show ¬ n + i < n by omega), if_neg (show ¬ n + i < n by omega), e6]
              exact ⟨⟨c1, d1, f1, Or.inl rfl⟩, rfl, rfl, rfl, rfl⟩
            · rw [if_neg (by omega), if_neg (by omega), if_neg (by omega), if_neg (by omega), if_neg (by omega), if_neg (by omega), if_neg (by omega), if_neg (by omega), if_neg (by omega), if_neg (by omega), if_neg (by omega), if_neg (by omega), if_neg (by omega), if_neg (by omega), if_neg (by omega), if_neg (by omega), if_neg (by omega), if_neg (by omega), if_neg (by omega), if_neg (by omega)]
              exact h2.2 c (by omega)
          · rw [hτ]
            exact (((((Fr.rf _ a).pi rfl).pi rfl).pi rfl).pi rfl).pi rfl
        · right
          have h10' : n + i = 10 := by
            by_cases i0 : i = 0
            · omega
            · have := (h1 (i - 1) (by omega)).1
              omega
          have hfu := welcome_full (σ := a) (by rw [h2.1, h10']) (nI (bv x (p + 3 * i))) (nI (bv x (p + 3 * i + 1))) (nI (bv x (p + 3 * i + 2)))
          rw [← er, ← e1] at hfu
          have ng : (-nI 3 < nI 0) = True := by decide
          refine ⟨i, a, ?_, ⟨by omega, h1, Or.inr fun q => by omega⟩, h2, hF⟩
          simp (maxSteps := 2000000) (disch := omega) only [f_T_citizens_L57, gupE, gltE, gllE, litE, litLE, bindE, ↓reduceIte, gsi_at, gsi_l2, gsl_at, gsl_i1, upd_at, updL_at, Nat.reduceEqDiff, gix_nI, nI_clamp, bI_0, bI_gzb, Bool.true_eq_false, Bool.false_eq_true, nI_leI, q1, hh, hwt, hfu, ng]
      · right
        rw [er] at e1
        refine ⟨i, a, ?_, ⟨by omega, h1, Or.inr fun q => t3 q.2⟩, h2, hF⟩
        simp (maxSteps := 2000000) (disch := omega) only [f_T_citizens_L57, gupE, gltE, gllE, litE, litLE, bindE, ↓reduceIte, gsi_at, gsi_l2, gsl_at, gsl_i1, upd_at, updL_at, Nat.reduceEqDiff, gix_nI, nI_clamp, bI_0, bI_gzb, Bool.true_eq_false, Bool.false_eq_true, nI_leI, q1, hh, hwt, e1, neg1_lt]
    · right
      rw [decide_eq_false q3] at hh
      refine ⟨i, a, ?_, ⟨by omega, h1, Or.inr fun q => q3 q.2.1⟩, h2, hF⟩
      simp (maxSteps := 2000000) (disch := omega) only [f_T_citizens_L57, gupE, gltE, gllE, litE, litLE, bindE, ↓reduceIte, gsi_at, gsi_l2, gsl_at, gsl_i1, upd_at, updL_at, Nat.reduceEqDiff, gix_nI, nI_clamp, bI_0, bI_gzb, Bool.true_eq_false, Bool.false_eq_true, nI_leI, q1, hh]
  · rintro fu a ⟨h1, h2, hF⟩
    have q1 : nI k ≤ nI k := Int32.le_refl _
    refine ⟨k, a, ?_, ⟨Nat.le_refl _, h1, Or.inl rfl⟩, h2, hF⟩
    simp (maxSteps := 2000000) (disch := omega) only [f_T_citizens_L57, gupE, gltE, gllE, litE, litLE, bindE, ↓reduceIte, gsi_at, gsi_l2, gsl_at, gsl_i1, upd_at, updL_at, Nat.reduceEqDiff, gix_nI, nI_clamp, bI_0, bI_gzb, Bool.true_eq_false, Bool.false_eq_true, q1]
