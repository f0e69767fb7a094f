/-! pure: liars, likely -/
/-- two k tells a citizen and a weather -/
def two2 (x : Nat → Int64) (z n k : Nat) : Prop := bval x z n (2 * k) ∧ bval x z 6 (2 * k + 1)
theorem TisTwo {σ : gS} {d z n k : Nat} {x : Nat → Int64} (h6 : σ.1 1 6 = nI n) (hn : n ≤ 10) (hB : BRow σ d z x) (hk : k < 100) : ∃ b, f_T_isTwo (47 + 2 * d) (nI k) σ = some (bI b) ∧ (b = true ↔ two2 x z n k) := by
  unfold f_T_isTwo
  have s1 := small_eq hB (show 2 * k < 1000 by omega)
  have s2 := small_eq hB (show 2 * k + 1 < 1000 by omega)
  have m : nI 2 * nI k = nI (2 * k) := pk_mul 2 k
  have i1 := bval_in hB (2 * k) (show n < 1000 by omega)
  have i2 := bval_in hB (2 * k + 1) (show 6 < 1000 by omega)
  unfold two2
  cases e1 : inb (sml x z (2 * k)) n with
  | false =>
    refine ⟨false, ?_, ⟨fun q => absurd q (by decide), fun q => by rw [i1.mpr q.1] at e1; cases e1⟩⟩
    simp (maxSteps := 2000000) (disch := omega) only [gupE, gltE, gllE, litE, litLE, bindE, ↓reduceIte, gsi_at, gsi_l2, gsl_at, gsl_i1, upd_at, updL_at, Nat.reduceEqDiff, gix_nI, nI_clamp, bI_0, bI_gzb, Bool.true_eq_false, Bool.false_eq_true, m, s1, h6, within_eq, e1]
    rfl
  | true =>
    cases e2 : inb (sml x z (2 * k + 1)) 6 with
    | false =>
      refine ⟨false, ?_, ⟨fun q => absurd q (by decide), fun q => by rw [i2.mpr q.2] at e2; cases e2⟩⟩
      simp (maxSteps := 2000000) (disch := omega) only [gupE, gltE, gllE, litE, litLE, bindE, ↓reduceIte, gsi_at, gsi_l2, gsl_at, gsl_i1, upd_at, updL_at, Nat.reduceEqDiff, gix_nI, nI_clamp, bI_0, bI_gzb, Bool.true_eq_false, Bool.false_eq_true, m, s1, h6, within_eq, e1, nI_add, s2, e2]
      rfl
    | true =>
      refine ⟨true, ?_, ⟨fun _ => ⟨i1.mp e1, i2.mp e2⟩, fun _ => rfl⟩⟩
      simp (maxSteps := 2000000) (disch := omega) only [gupE, gltE, gllE, litE, litLE, bindE, ↓reduceIte, gsi_at, gsi_l2, gsl_at, gsl_i1, upd_at, updL_at, Nat.reduceEqDiff, gix_nI, nI_clamp, bI_0, bI_gzb, Bool.true_eq_false, Bool.false_eq_true, m, s1, h6, within_eq, e1, nI_add, s2, e2]
      rfl
theorem MsaidMany {τ : gS} {d z n q : Nat} {x : Nat → Int64} (hd : d < 6) (h6 : τ.1 59 6 = nI n) (hn : n ≤ 10) (hB : MRow τ d z x) (hq : q ≤ 8) (h1 : ∀ i, i < q → two2 x z n i) (h2 : q = 8 ∨ ¬ two2 x z n q) : f_M_saidMany (nI d) τ = some (nI q) := by
  obtain ⟨hz, b7, b8⟩ := id hB
  unfold f_M_saidMany
  simp only [litE]
  have m : ∀ k, nI 2 * nI k = nI (2 * k) := fun k => pk_mul 2 k
  refine loopG (fun fu i (_ : Nat) => f_M_saidMany_L2 τ fu (nI d) (nI i)) (fun o => o = some (nI q)) (fun _ _ => True) q 0 0 (by omega) (by omega) trivial ?_ ?_
  · intro fu i a hi _
    left
    refine ⟨0, ?_, trivial⟩
    obtain ⟨v1, v2⟩ := h1 i hi
    have zz := v2.1
    have ea := (b8 (2 * i) (by omega)).1
    have eb := (b8 (2 * i + 1) (by omega)).1
    rw [← Nat.add_assoc] at eb
    have q1 : ¬ 8 ≤ i := by omega
    have q2 : ¬ z ≤ 2 * i + 1 := by omega
    have q3 : decide (0 ≤ (x (2 * i)).toInt ∧ (x (2 * i)).toInt < (n : Int)) = true := decide_eq_true v1.2
    have q4 : decide (0 ≤ (x (2 * i + 1)).toInt ∧ (x (2 * i + 1)).toInt < (6 : Int)) = true := decide_eq_true v2.2
    simp (maxSteps := 2000000) (disch := omega) only [f_M_saidMany_L2, gupE, gltE, gllE, litE, litLE, bindE, ↓reduceIte, gsi_at, gsi_l2, gsl_at, gsl_i1, upd_at, updL_at, Nat.reduceEqDiff, gix_nI, nI_clamp, bI_0, bI_gzb, Bool.true_eq_false, Bool.false_eq_true, nI_leI, q1, b7, m, nI_add, q2, i_eq32, ea, isOneL h6 hn, q3, eb, isWeatherL, q4]
  · intro fu a _
    by_cases q8 : 8 ≤ q
    · simp (maxSteps := 2000000) (disch := omega) only [f_M_saidMany_L2, gupE, gltE, gllE, litE, litLE, bindE, ↓reduceIte, gsi_at, gsi_l2, gsl_at, gsl_i1, upd_at, updL_at, Nat.reduceEqDiff, gix_nI, nI_clamp, bI_0, bI_gzb, Bool.true_eq_false, Bool.false_eq_true, nI_leI, q8]
    · have hno : ¬ two2 x z n q := h2.elim (fun e => absurd e (by omega)) id
      by_cases q2 : z ≤ 2 * q + 1
      · simp (maxSteps := 2000000) (disch := omega) only [f_M_saidMany_L2, gupE, gltE, gllE, litE, litLE, bindE, ↓reduceIte, gsi_at, gsi_l2, gsl_at, gsl_i1, upd_at, updL_at, Nat.reduceEqDiff, gix_nI, nI_clamp, bI_0, bI_gzb, Bool.true_eq_false, Bool.false_eq_true, nI_leI, q8, b7, m, nI_add, q2]
      · have ea := (b8 (2 * q) (by omega)).1
        have eb := (b8 (2 * q + 1) (by omega)).1
        rw [← Nat.add_assoc] at eb
        by_cases q3 : 0 ≤ (x (2 * q)).toInt ∧ (x (2 * q)).toInt < (n : Int)
        · have q4 : ¬ (0 ≤ (x (2 * q + 1)).toInt ∧ (x (2 * q + 1)).toInt < (6 : Int)) := fun y => hno ⟨⟨by omega, q3⟩, ⟨by omega, y⟩⟩
          have q3' := decide_eq_true q3
          have q4' := decide_eq_false q4
          simp (maxSteps := 2000000) (disch := omega) only [f_M_saidMany_L2, gupE, gltE, gllE, litE, litLE, bindE, ↓reduceIte, gsi_at, gsi_l2, gsl_at, gsl_i1, upd_at, updL_at, Nat.reduceEqDiff, gix_nI, nI_clamp, bI_0, bI_gzb, Bool.true_eq_false, Bool.false_eq_true, nI_leI, q8, b7, m, nI_add, q2, i_eq32, ea, isOneL h6 hn, q3', eb, isWeatherL, q4']
        · have q3' := decide_eq_false q3
          simp (maxSteps := 2000000) (disch := omega) only [f_M_saidMany_L2, gupE, gltE, gllE, litE, litLE, bindE, ↓reduceIte, gsi_at, gsi_l2, gsl_at, gsl_i1, upd_at, updL_at, Nat.reduceEqDiff, gix_nI, nI_clamp, bI_0, bI_gzb, Bool.true_eq_false, Bool.false_eq_true, nI_leI, q8, b7, m, nI_add, q2, i_eq32, ea, isOneL h6 hn, q3']
/-- how many of the first k said something else -/
def so (x : Nat → Int64) (w k : Nat) : Nat := sm (fun k => if bv x (2 * k + 1) = w then 0 else 1) k
theorem so_le (x : Nat → Int64) (w k : Nat) : so x w k ≤ k := by
  have := sm_le (g := fun k => if bv x (2 * k + 1) = w then 0 else 1) (B := 1) (fun j => by
    show (if bv x (2 * j + 1) = w then 0 else 1) ≤ 1
    split <;> omega) k
  unfold so
  omega
theorem Tother {σ : gS} {d z n q w : Nat} {x : Nat → Int64} (h6 : σ.1 1 6 = nI n) (hn : n ≤ 10) (hB : BRow σ d z x) (hw : w < 6) (hq : q ≤ 8) (h1 : ∀ i, i < q → two2 x z n i) (h2 : q = 8 ∨ ¬ two2 x z n q) : f_T_sayingOtherwise (47 + 2 * d) (nI w) σ = some (nI (so x w q)) := by
  unfold f_T_sayingOtherwise
  simp only [litE]
  have m : ∀ k, nI 2 * nI k = nI (2 * k) := fun k => pk_mul 2 k
  refine loopG (fun fu i (a : Nat) => f_T_sayingOtherwise_L5 (47 + 2 * d) σ fu (nI w) (nI a) (nI i)) (fun o => o = some (nI (so x w q))) (fun i a => a = so x w i) q 0 0 (by omega) (by omega) rfl ?_ ?_
  · intro fu i a hi hp
    left
    refine ⟨_, ?_, rfl⟩
    obtain ⟨b, e1, e2⟩ := TisTwo h6 hn hB (show i < 100 by omega)
    have hb : b = true := e2.mpr (h1 i hi)
    subst hb
    obtain ⟨c1, c2, c3, c4⟩ := bval.v hB (h1 i hi).2
    have s2 := small_eq hB (show 2 * i + 1 < 1000 by omega)
    rw [c1] at s2
    have q1 : ¬ 8 ≤ i := by omega
    show f_T_sayingOtherwise_L5 (47 + 2 * d) σ (fu + 1) (nI w) (nI a) (nI i) = f_T_sayingOtherwise_L5 (47 + 2 * d) σ fu (nI w) (nI (sm _ i + if bv x (2 * i + 1) = w then 0 else 1)) (nI (i + 1))
    have hp' : a = sm (fun k => if bv x (2 * k + 1) = w then 0 else 1) i := hp
    rw [← hp']
    by_cases e : bv x (2 * i + 1) = w
    · simp (maxSteps := 2000000) (disch := omega) only [f_T_sayingOtherwise_L5, f_T_sayingOtherwise_j42, gupE, gltE, gllE, litE, litLE, bindE, ↓reduceIte, gsi_at, gsi_l2, gsl_at, gsl_i1, upd_at, updL_at, Nat.reduceEqDiff, gix_nI, nI_clamp, bI_0, bI_gzb, Bool.true_eq_false, Bool.false_eq_true, nI_leI, q1, e1, m, nI_add, s2, nI_eq, e]
    · simp (maxSteps := 2000000) (disch := omega) only [f_T_sayingOtherwise_L5, f_T_sayingOtherwise_j42, gupE, gltE, gllE, litE, litLE, bindE, ↓reduceIte, gsi_at, gsi_l2, gsl_at, gsl_i1, upd_at, updL_at, Nat.reduceEqDiff, gix_nI, nI_clamp, bI_0, bI_gzb, Bool.true_eq_false, Bool.false_eq_true, nI_leI, q1, e1, m, nI_add, s2, nI_eq, e]
  · intro fu a hp
    subst hp
    by_cases q8 : 8 ≤ q
    · simp (maxSteps := 2000000) (disch := omega) only [f_T_sayingOtherwise_L5, gupE, gltE, gllE, litE, litLE, bindE, ↓reduceIte, gsi_at, gsi_l2, gsl_at, gsl_i1, upd_at, updL_at, Nat.reduceEqDiff, gix_nI, nI_clamp, bI_0, bI_gzb, Bool.true_eq_false, Bool.false_eq_true, nI_leI, q8]
    · have hno : ¬ two2 x z n q := h2.elim (fun e => absurd e (by omega)) id
      obtain ⟨b, e1, e2⟩ := TisTwo h6 hn hB (show q < 100 by omega)
      have hb : b = false := by
        cases b with
        | false => rfl
        | true => exact absurd (e2.mp rfl) hno
      subst hb
      simp (maxSteps := 2000000) (disch := omega) only [f_T_sayingOtherwise_L5, gupE, gltE, gllE, litE, litLE, bindE, ↓reduceIte, gsi_at, gsi_l2, gsl_at, gsl_i1, upd_at, updL_at, Nat.reduceEqDiff, gix_nI, nI_clamp, bI_0, bI_gzb, Bool.true_eq_false, Bool.false_eq_true, nI_leI, q8, e1]
def lstp (x : Nat → Int64) (q w : Nat) (a : Nat × Nat) : Nat × Nat := if so x w q < a.1 then (so x w q, w) else a
def lacc (x : Nat → Int64) (q : Nat) (a : Nat × Nat) : Nat → Nat × Nat
  | 0 => a
  | w + 1 => lstp x q w (lacc x q a w)
theorem lacc_eq (x : Nat → Int64) {q : Nat} (hq : q ≤ 8) : ∀ w, lacc x q (9, 0) (w + 1) = lacc x q (1000000, 0) (w + 1)
  | 0 => by
    have := so_le x 0 q
    show lstp x q 0 (9, 0) = lstp x q 0 (1000000, 0)
    unfold lstp
    rw [if_pos (show so x 0 q < 9 by omega), if_pos (show so x 0 q < 1000000 by omega)]
  | w + 1 => by
    show lstp x q (w + 1) (lacc x q (9, 0) (w + 1)) = lstp x q (w + 1) (lacc x q (1000000, 0) (w + 1))
    rw [lacc_eq x hq w]
theorem lacc_le (x : Nat → Int64) {q : Nat} (hq : q ≤ 8) (a : Nat × Nat) (h1 : a.1 ≤ 1000000) (h2 : a.2 ≤ 10) : ∀ w, w ≤ 6 → (lacc x q a w).1 ≤ 1000000 ∧ (lacc x q a w).2 ≤ 10
  | 0, _ => ⟨h1, h2⟩
  | w + 1, hw => by
    have ih := lacc_le x hq a h1 h2 w (by omega)
    have := so_le x w q
    show (lstp x q w (lacc x q a w)).1 ≤ 1000000 ∧ (lstp x q w (lacc x q a w)).2 ≤ 10
    unfold lstp
    split
    · refine ⟨?_, ?_⟩
      · show so x w q ≤ 1000000
        omega
      · show w ≤ 10
        omega
    · exact ih
theorem Tliars_L {σ : gS} {d z n q v : Nat} {x : Nat → Int64} (h6 : σ.1 1 6 = nI n) (hn : n ≤ 10) (hB : BRow σ d z x) (hv : v < 2) (hq : q ≤ 8) (h1 : ∀ i, i < q → two2 x z n i) (h2 : q = 8 ∨ ¬ two2 x z n q) : f_T_liars_L48 σ gfu (nI v) (47 + 2 * d) (nI 9) (nI 0) (nI 0) = some (nI (if v = 0 then (lacc x q (9, 0) 6).1 else (lacc x q (9, 0) 6).2)) := by
  refine loopG (fun fu i (a : Nat × Nat) => f_T_liars_L48 σ fu (nI v) (47 + 2 * d) (nI a.1) (nI a.2) (nI i)) (fun o => o = some (nI (if v = 0 then (lacc x q (9, 0) 6).1 else (lacc x q (9, 0) 6).2))) (fun i a => a = lacc x q (9, 0) i) 6 0 (9, 0) (by omega) (by omega) rfl ?_ ?_
  · rintro fu i ⟨l, b⟩ hi hp
    left
    refine ⟨_, ?_, rfl⟩
    have ho := Tother h6 hn hB hi hq h1 h2
    have hsl := so_le x i q
    have hl := lacc_le x hq (9, 0) (by decide) (by decide) i (by omega)
    have q1 : ¬ 6 ≤ i := by omega
    show f_T_liars_L48 σ (fu + 1) (nI v) (47 + 2 * d) (nI l) (nI b) (nI i) = f_T_liars_L48 σ fu (nI v) (47 + 2 * d) (nI (lstp x q i (lacc x q (9, 0) i)).1) (nI (lstp x q i (lacc x q (9, 0) i)).2) (nI (i + 1))
    rw [← hp] at hl ⊢
    have hl1 : l ≤ 1000000 := hl.1
    unfold lstp
    by_cases e : so x i q < l
    · have e2 : ¬ l ≤ so x i q := by omega
      simp (maxSteps := 2000000) (disch := omega) only [f_T_liars_L48, gupE, gltE, gllE, litE, litLE, bindE, ↓reduceIte, gsi_at, gsi_l2, gsl_at, gsl_i1, upd_at, updL_at, Nat.reduceEqDiff, gix_nI, nI_clamp, bI_0, bI_gzb, Bool.true_eq_false, Bool.false_eq_true, nI_leI, q1, ho, e2, e, nI_add]
    · have e2 : l ≤ so x i q := by omega
      simp (maxSteps := 2000000) (disch := omega) only [f_T_liars_L48, gupE, gltE, gllE, litE, litLE, bindE, ↓reduceIte, gsi_at, gsi_l2, gsl_at, gsl_i1, upd_at, updL_at, Nat.reduceEqDiff, gix_nI, nI_clamp, bI_0, bI_gzb, Bool.true_eq_false, Bool.false_eq_true, nI_leI, q1, ho, e2, e, nI_add]
  · rintro fu ⟨l, b⟩ hp
    rw [← hp]
    have q1 : nI 6 ≤ nI 6 := Int32.le_refl _
    by_cases v0 : v = 0
    · simp (maxSteps := 2000000) (disch := omega) only [f_T_liars_L48, gupE, gltE, gllE, litE, litLE, bindE, ↓reduceIte, gsi_at, gsi_l2, gsl_at, gsl_i1, upd_at, updL_at, Nat.reduceEqDiff, gix_nI, nI_clamp, bI_0, bI_gzb, Bool.true_eq_false, Bool.false_eq_true, q1, v0]
    · simp (maxSteps := 2000000) (disch := omega) only [f_T_liars_L48, gupE, gltE, gllE, litE, litLE, bindE, ↓reduceIte, gsi_at, gsi_l2, gsl_at, gsl_i1, upd_at, updL_at, Nat.reduceEqDiff, gix_nI, nI_clamp, bI_0, bI_gzb, Bool.true_eq_false, Bool.false_eq_true, q1, nI_eq, v0]
theorem Mliars_L {σ : gS} {d z n q v : Nat} {x : Nat → Int64} (hd : d < 6) (h6 : σ.1 59 6 = nI n) (hn : n ≤ 10) (hB : MRow σ d z x) (hv : v < 2) (hq : q ≤ 8) (h1 : ∀ i, i < q → two2 x z n i) (h2 : q = 8 ∨ ¬ two2 x z n q) : f_M_liars_L44 σ gfu (nI d) (nI v) (nI 1000000) (nI 0) (nI 0) = some (nI (if v = 0 then (lacc x q (1000000, 0) 6).1 else (lacc x q (1000000, 0) 6).2)) := by
  have hsm := MsaidMany hd h6 hn hB hq h1 h2
  have m : ∀ k, nI 2 * nI k = nI (2 * k) := fun k => pk_mul 2 k
  refine loopG (fun fu i (a : Nat × Nat) => f_M_liars_L44 σ fu (nI d) (nI v) (nI a.1) (nI a.2) (nI i)) (fun o => o = some (nI (if v = 0 then (lacc x q (1000000, 0) 6).1 else (lacc x q (1000000, 0) 6).2))) (fun i a => a = lacc x q (1000000, 0) i) 6 0 (1000000, 0) (by omega) (by omega) rfl ?_ ?_
  · rintro fu i ⟨l, b⟩ hi hp
    left
    refine ⟨_, ?_, rfl⟩
    have hsl := so_le x i q
    have hl := lacc_le x hq (1000000, 0) (by decide) (by decide) i (by omega)
    have q1 : ¬ 6 ≤ i := by omega
    show f_M_liars_L44 σ (fu + 1) (nI d) (nI v) (nI l) (nI b) (nI i) = f_M_liars_L44 σ fu (nI d) (nI v) (nI (lstp x q i (lacc x q (1000000, 0) i)).1) (nI (lstp x q i (lacc x q (1000000, 0) i)).2) (nI (i + 1))
    rw [← hp] at hl ⊢
    have hl1 : l ≤ 1000000 := hl.1
    have inner := loopG (fun g j (a : Nat) => f_M_liars_L57 σ (fun v1 v2 v3 v4 v5 => f_M_liars_L44 σ fu v1 v2 v3 v4 v5) g (nI d) (nI v) (nI l) (nI b) (nI i) (nI a) (nI j)) (fun o => o = f_M_liars_L44 σ fu (nI d) (nI v) (nI (lstp x q i (l, b)).1) (nI (lstp x q i (l, b)).2) (nI (i + 1))) (fun j a => a = so x i j) q 0 0 (by omega) (by omega) rfl ?_ ?_
    · rw [← inner]
      simp (maxSteps := 2000000) (disch := omega) only [f_M_liars_L44, gupE, gltE, gllE, litE, litLE, bindE, ↓reduceIte, gsi_at, gsi_l2, gsl_at, gsl_i1, upd_at, updL_at, Nat.reduceEqDiff, gix_nI, nI_clamp, bI_0, bI_gzb, Bool.true_eq_false, Bool.false_eq_true, nI_leI, q1]
    · intro g j a hj ha
      left
      refine ⟨_, ?_, rfl⟩
      obtain ⟨v1, v2⟩ := h1 j hj
      have zz := v2.1
      have hz := hB.1
      obtain ⟨c1, c2, c3⟩ := bval.m hB v2
      have eb := (hB.2.2 (2 * j + 1) (by omega)).1
      rw [← Nat.add_assoc] at eb
      have q2 : ¬ q ≤ j := by omega
      show f_M_liars_L57 σ _ (g + 1) (nI d) (nI v) (nI l) (nI b) (nI i) (nI a) (nI j) = f_M_liars_L57 σ _ g (nI d) (nI v) (nI l) (nI b) (nI i) (nI (sm _ j + if bv x (2 * j + 1) = i then 0 else 1)) (nI (j + 1))
      have ha' : a = sm (fun k => if bv x (2 * k + 1) = i then 0 else 1) j := ha
      rw [← ha']
      have tm : (lg_cmp (x (2 * j + 1)) (nI i).toInt64 = nI 0) = (bv x (2 * j + 1) = i) := by
        rw [told_m (by omega)]
        apply propext
        have := v2.2
        unfold bv
        omega
      by_cases e : bv x (2 * j + 1) = i
      · simp (maxSteps := 2000000) (disch := omega) only [f_M_liars_L57, f_M_liars_j97, gupE, gltE, gllE, litE, litLE, bindE, ↓reduceIte, gsi_at, gsi_l2, gsl_at, gsl_i1, upd_at, updL_at, Nat.reduceEqDiff, gix_nI, nI_clamp, bI_0, bI_gzb, Bool.true_eq_false, Bool.false_eq_true, hsm, nI_leI, q2, i_eq32, m, nI_add, eb, tm, e]
      · simp (maxSteps := 2000000) (disch := omega) only [f_M_liars_L57, f_M_liars_j97, gupE, gltE, gllE, litE, litLE, bindE, ↓reduceIte, gsi_at, gsi_l2, gsl_at, gsl_i1, upd_at, updL_at, Nat.reduceEqDiff, gix_nI, nI_clamp, bI_0, bI_gzb, Bool.true_eq_false, Bool.false_eq_true, hsm, nI_leI, q2, i_eq32, m, nI_add, eb, tm, e]
    · intro g a ha
      subst ha
      have q2 : nI q ≤ nI q := Int32.le_refl _
      unfold lstp
      by_cases e : so x i q < l
      · have e2 : ¬ l ≤ so x i q := by omega
        simp (maxSteps := 2000000) (disch := omega) only [f_M_liars_L57, f_M_liars_j119, f_M_liars_j133, gupE, gltE, gllE, litE, litLE, bindE, ↓reduceIte, gsi_at, gsi_l2, gsl_at, gsl_i1, upd_at, updL_at, Nat.reduceEqDiff, gix_nI, nI_clamp, bI_0, bI_gzb, Bool.true_eq_false, Bool.false_eq_true, hsm, q2, nI_leI, e, e2, nI_add]
      · have e2 : l ≤ so x i q := by omega
        simp (maxSteps := 2000000) (disch := omega) only [f_M_liars_L57, f_M_liars_j119, f_M_liars_j133, gupE, gltE, gllE, litE, litLE, bindE, ↓reduceIte, gsi_at, gsi_l2, gsl_at, gsl_i1, upd_at, updL_at, Nat.reduceEqDiff, gix_nI, nI_clamp, bI_0, bI_gzb, Bool.true_eq_false, Bool.false_eq_true, hsm, q2, nI_leI, e, e2, nI_add]
  · rintro fu ⟨l, b⟩ hp
    rw [← hp]
    have q1 : nI 6 ≤ nI 6 := Int32.le_refl _
    by_cases v0 : v = 0
    · simp (maxSteps := 2000000) (disch := omega) only [f_M_liars_L44, gupE, gltE, gllE, litE, litLE, bindE, ↓reduceIte, gsi_at, gsi_l2, gsl_at, gsl_i1, upd_at, updL_at, Nat.reduceEqDiff, gix_nI, nI_clamp, bI_0, bI_gzb, Bool.true_eq_false, Bool.false_eq_true, q1, v0]
    · simp (maxSteps := 2000000) (disch := omega) only [f_M_liars_L44, gupE, gltE, gllE, litE, litLE, bindE, ↓reduceIte, gsi_at, gsi_l2, gsl_at, gsl_i1, upd_at, updL_at, Nat.reduceEqDiff, gix_nI, nI_clamp, bI_0, bI_gzb, Bool.true_eq_false, Bool.false_eq_true, q1, nI_eq, v0]
theorem ag_liars (v1 v2 : Int32) : AgrI (f_T_liars v1 v2) (f_M_liars v1 v2) := by
  intro σ hR
  obtain ⟨n, K, E, P, B, F, W, D, m, hP, hT, hL, hC, hLe, hPi, hW, hS, h0⟩ := hR
  have hn := hP.1.1
  unfold f_T_liars f_M_liars
  cases hv : inb v1 6 with
  | false =>
    refine ⟨-nI 1, ?_, ?_⟩
    · rw [show f_T_within v1 6 = some (bI false) from w3_f hv (by decide), bindE, if_pos (show bI false = 0 from rfl)]
      rfl
    · rw [bytesIs_no hv, bindE, if_pos (show -nI 1 = -1 from rfl)]
      rfl
  | true =>
    obtain ⟨d, hd, rfl⟩ := inb_of hv (by omega)
    have hw1 : f_T_within (nI d) 6 = some (bI true) := w3_t hv (by decide)
    have hbn : ∃ r, f_M_bytesIs (nI d) σ = some r ∧ ¬ r = -1 := by
      rcases bytes_c hS hW.1.1 hd with ⟨r, hr | hr, -, -, e⟩ | ⟨z, x, -, -, e⟩
      · exact ⟨r, e, by rw [hr]; decide⟩
      · exact ⟨r, e, by rw [hr]; decide⟩
      · exact ⟨_, e, by decide⟩
    obtain ⟨r0, hr0, hr1⟩ := hbn
    cases hv2 : inb v2 2 with
    | false =>
      refine ⟨-nI 1, ?_, ?_⟩
      · rw [hw1, bindE, if_neg (by decide), show f_T_within v2 2 = some (bI false) from w3_f hv2 (by decide), bindE, if_pos (by decide)]
        rfl
      · rw [hr0, bindE, if_neg hr1, show f_M_within v2.toInt64 0 1 = some (bI false) from m3_f hv2 (by decide), bindE, if_pos (by decide)]
        rfl
    | true =>
      obtain ⟨w, hw, rfl⟩ := inb_of hv2 (by omega)
      have hw2 : f_T_within (nI w) 2 = some (bI true) := w3_t hv2 (by decide)
      have hm2 : f_M_within (nI w).toInt64 0 1 = some (bI true) := m3_t hv2 (by decide)
      rcases bytes_c hS hW.1.1 hd with ⟨r, hr, e1, e2, e3⟩ | ⟨z, x, hB, e1, e3⟩
      · refine ⟨r, ?_, ?_⟩
        · rw [hw1, bindE, if_neg (by decide), hw2, bindE, if_neg (by decide), if_pos (gix_nI hd (by decide)), gshc_nI hd, e1, bindE, if_pos (by decide), e2, bindE]
        · have le : ¬ 0 ≤ r := by rcases hr with rfl | rfl <;> decide
          have ne : ¬ r = -1 := by rcases hr with rfl | rfl <;> decide
          rw [e3, bindE, if_neg ne, hm2, bindE, if_neg (by decide), bindE, if_neg le, bindE]
      · obtain ⟨q, hq, p1, p2⟩ := prefix_ex (two2 x z n) 8
        have hT := Tliars_L hP.1.2.1 hn hB hw hq p1 p2
        have hM := Mliars_L hd hP.1.2.2 hn hB.m hw hq p1 p2
        rw [← lacc_eq x hq 5] at hM
        refine ⟨nI (if w = 0 then (lacc x q (9, 0) 6).1 else (lacc x q (9, 0) 6).2), ?_, ?_⟩
        · rw [hw1, bindE, if_neg (by decide), hw2, bindE, if_neg (by decide), if_pos (gix_nI hd (by decide)), gshc_nI hd, e1, bindE, if_neg (by decide), ← hT]
          rfl
        · rw [e3, bindE, if_neg (by decide), hm2, bindE, if_neg (by decide), bindE, if_pos (by decide), ← hM]
          rfl
