/-! pure: days, judge -/
theorem Cday {σ : gS} {n : Nat} {K E P : Nat → Nat} {B : Nat → Int32} {F W D m : Nat} {V : VT} (h : Ctx σ n K E P B F W D m V) {w dd x : Nat} (hw : w < 6) (hd : dd < 100) (hx : Bits x (Hp n (sy V K E P B w dd) K W (fun _ => True))) :
    ∃ s τ, f_Cr_gather 11 (nI w) (nI dd) σ = some s ∧ f_Cr_happened 11 (nI 10) s = some (nI x, τ) ∧ Frs σ τ := by
  obtain ⟨s, e1, e2, e3⟩ := Cgather (Or.inl rfl) h.1 h.2.1 hw hd
  obtain ⟨y, τ, f1, f2, f3⟩ := Call_h e2 (sy_rg h.1.pm hw)
  rw [f2.eq hx] at f1
  exact ⟨s, τ, e1, f1, (fr_no e3 (cGa_s (Or.inl rfl))).tr (fr_no f3 (only_s (by omega)))⟩
/-- the reference's half of the context -/
def CtM (σ : gS) (n : Nat) (K E P : Nat → Nat) (B : Nat → Int32) (F W D : Nat) (V : VT) : Prop := PM σ n K E P B F W D ∧ LwV σ V
theorem CtM.sy {σ τ : gS} {n : Nat} {K E P : Nat → Nat} {B : Nat → Int32} {F W D : Nat} {V : VT} (h : CtM σ n K E P B F W D V) (hF : Fr cSy σ τ) : CtM τ n K E P B F W D V := ⟨h.1.ag (hF.1 59 6 rfl) (fun k => hF.1 60 k rfl), h.2.ag fun c k q => hF.1 c k (by
  unfold cLw at q
  unfold cSy cSa
  simp only [Bool.or_eq_true, Bool.and_eq_true, beq_iff_eq, Bool.or_eq_false_iff, Bool.and_eq_false_iff, beq_eq_false_iff_ne] at q ⊢
  omega)⟩
/-- what the reference reads of a row of bytes -/
def MRow (σ : gS) (d z : Nat) (x : Nat → Int64) : Prop := z ≤ 60 ∧ σ.1 77 d = nI z ∧ ∀ i, i < 60 → σ.2 78 (60 * d + i) = x i ∧ -128 ≤ (x i).toInt ∧ (x i).toInt ≤ 127
theorem BRow.m {σ : gS} {d z : Nat} {x : Nat → Int64} (h : BRow σ d z x) : MRow σ d z x := ⟨h.1, h.2.2.1, fun i hi => (h.2.2.2 i hi).2⟩
theorem MRow.sy {σ τ : gS} {d z : Nat} {x : Nat → Int64} (h : MRow σ d z x) (h77 : ∀ k, τ.1 77 k = σ.1 77 k) (h78 : ∀ k, τ.2 78 k = σ.2 78 k) : MRow τ d z x := by
  unfold MRow at h ⊢
  simp only [h77, h78]
  exact h
theorem bval.m {σ : gS} {d z s : Nat} {x : Nat → Int64} (h : MRow σ d z x) {i : Nat} (hv : bval x z s i) : bv x i < s ∧ bv x i < 128 ∧ x i = lN (bv x i) := by
  have h2 := h.2.2 i (by have := h.1; have := hv.1; omega)
  obtain ⟨v1, v2, v3⟩ := hv
  refine ⟨?_, ?_, Int64.toInt_inj.mp ?_⟩
  · unfold bv
    omega
  · unfold bv
    omega
  · rw [lN_tI (by unfold bv; omega)]
    unfold bv
    omega
theorem lNi (v : Nat) : (lN v).toInt32 = nI v := lN_i _
theorem Mday {σ : gS} {n : Nat} {K E P : Nat → Nat} {B : Nat → Int32} {F W D : Nat} {V : VT} (h : CtM σ n K E P B F W D V) {d z i : Nat} {x : Nat → Int64} (hd : d < 6) (hB : MRow σ d z x) (hi : bval x z 6 i) {y : Nat} (hy : Bits y (Hp n (sy V K E P B (bv x i) (min 99 (D + i))) K W (fun _ => True))) :
    ∃ τ, f_M_happenedOn (nI d) (nI i) σ = some (nI y, τ) ∧ Fr cSy σ τ := by
  obtain ⟨b1, b2, b3⟩ := bval.m hB hi
  have hz := hB.1
  have hiz := hi.1
  obtain ⟨τ, e1, e2, e3⟩ := MallSay h.1 h.2 (w := bv x i) (d := min 99 (D + i)) b1 (by omega)
  obtain ⟨y', f1, f2⟩ := Mall_h e2 (sy_rg h.1 b1)
  rw [f2.eq hy] at f1
  refine ⟨τ, ?_, e3⟩
  have ex : σ.2 78 (60 * d + i) = lN (bv x i) := ((hB.2.2 i (by omega)).1).trans b3
  have hD : D < 100 := h.1.2.2.2.2.1
  unfold f_M_happenedOn
  have g1 : gix ((60 : Int32) * nI d + nI i) 360 = true := by
    rw [show (60 : Int32) = nI 60 from rfl, i_eq32, nI_add]
    exact gix_nI (by omega) (by omega)
  have g2 : ((60 : Int32) * nI d + nI i).toNatClampNeg = 60 * d + i := by
    rw [show (60 : Int32) = nI 60 from rfl, i_eq32, nI_add]
    exact nI_clamp (by omega)
  rw [if_pos g1, h.1.2.2.2.2.2, nI_add, dayOf_eq (by omega), bindE, g2, ex, lNi, e1, bindE, Meverybody e2.1.1 h.1.1.1, bindE, f1, bindE]
theorem TdaysOn {σ : gS} {d z q : Nat} {x : Nat → Int64} (hB : BRow σ d z x) (hq : q ≤ 40) (h1 : ∀ i, i < q → bval x z 6 i) (h2 : q = 40 ∨ ¬ bval x z 6 q) : f_T_daysOn (47 + 2 * d) σ = some (nI q) := by
  unfold f_T_daysOn
  simp only [litE]
  refine loopG (fun fu i (_ : Nat) => f_T_daysOn_L2 (47 + 2 * d) σ fu (nI i)) (fun o => o = some (nI q)) (fun _ _ => True) q 0 0 (by omega) (by omega) trivial ?_ ?_
  · intro fu i a hi _
    left
    refine ⟨0, ?_, trivial⟩
    have q1 : ¬ 40 ≤ i := by omega
    have hin := bval_inb hB (show 6 < 1000 by omega) (h1 i hi)
    have hsm := small_eq hB (show i < 1000 by omega)
    simp (maxSteps := 2000000) (disch := omega) only [f_T_daysOn_L2, gupE, gltE, gllE, litE, litLE, bindE, ↓reduceIte, gsi_at, gsi_l2, gsl_at, gsl_i1, upd_at, updL_at, Nat.reduceEqDiff, gix_nI, nI_clamp, bI_0, bI_gzb, Bool.true_eq_false, Bool.false_eq_true, nI_leI, q1, hsm, within_eq, hin, nI_add]
  · intro fu a _
    by_cases q40 : 40 ≤ q
    · simp (maxSteps := 2000000) (disch := omega) only [f_T_daysOn_L2, gupE, gltE, gllE, litE, litLE, bindE, ↓reduceIte, gsi_at, gsi_l2, gsl_at, gsl_i1, upd_at, updL_at, Nat.reduceEqDiff, gix_nI, nI_clamp, bI_0, bI_gzb, Bool.true_eq_false, Bool.false_eq_true, nI_leI, q40]
    · have hno : ¬ bval x z 6 q := h2.elim (fun e => absurd e (by omega)) id
      have hin := bval_not hB (show 6 < 1000 by omega) hno
      have hsm := small_eq hB (show q < 1000 by omega)
      simp (maxSteps := 2000000) (disch := omega) only [f_T_daysOn_L2, gupE, gltE, gllE, litE, litLE, bindE, ↓reduceIte, gsi_at, gsi_l2, gsl_at, gsl_i1, upd_at, updL_at, Nat.reduceEqDiff, gix_nI, nI_clamp, bI_0, bI_gzb, Bool.true_eq_false, Bool.false_eq_true, nI_leI, q40, hsm, within_eq, hin]
theorem MdayMany {τ : gS} {d z q : Nat} {x : Nat → Int64} (hd : d < 6) (hB : MRow τ d z x) (hq : q ≤ 40) (h1 : ∀ i, i < q → bval x z 6 i) (h2 : q = 40 ∨ ¬ bval x z 6 q) : f_M_dayMany (nI d) τ = some (nI q) := by
  obtain ⟨hz, b7, b8⟩ := id hB
  unfold f_M_dayMany
  simp only [litE]
  refine loopG (fun fu i (_ : Nat) => f_M_dayMany_L2 τ fu (nI d) (nI i)) (fun o => o = some (nI q)) (fun _ _ => True) q 0 0 (by omega) (by omega) trivial ?_ ?_
  · intro fu i a hi _
    left
    refine ⟨0, ?_, trivial⟩
    have v1 := h1 i hi
    have e := (b8 i (by have := v1.1; omega)).1
    have q1 : ¬ 40 ≤ i := by omega
    have q2 : ¬ z ≤ i := by have := v1.1; omega
    have q3 : decide (0 ≤ (x i).toInt ∧ (x i).toInt < (6 : Int)) = true := decide_eq_true v1.2
    simp (maxSteps := 2000000) (disch := omega) only [f_M_dayMany_L2, gupE, gltE, gllE, litE, litLE, bindE, ↓reduceIte, gsi_at, gsi_l2, gsl_at, gsl_i1, upd_at, updL_at, Nat.reduceEqDiff, gix_nI, nI_clamp, bI_0, bI_gzb, Bool.true_eq_false, Bool.false_eq_true, nI_leI, q1, b7, q2, i_eq32, nI_add, e, isWeatherL, q3]
  · intro fu a _
    by_cases q40 : 40 ≤ q
    · simp (maxSteps := 2000000) (disch := omega) only [f_M_dayMany_L2, gupE, gltE, gllE, litE, litLE, bindE, ↓reduceIte, gsi_at, gsi_l2, gsl_at, gsl_i1, upd_at, updL_at, Nat.reduceEqDiff, gix_nI, nI_clamp, bI_0, bI_gzb, Bool.true_eq_false, Bool.false_eq_true, nI_leI, q40]
    · have hno : ¬ bval x z 6 q := h2.elim (fun e => absurd e (by omega)) id
      by_cases q2 : z ≤ q
      · simp (maxSteps := 2000000) (disch := omega) only [f_M_dayMany_L2, gupE, gltE, gllE, litE, litLE, bindE, ↓reduceIte, gsi_at, gsi_l2, gsl_at, gsl_i1, upd_at, updL_at, Nat.reduceEqDiff, gix_nI, nI_clamp, bI_0, bI_gzb, Bool.true_eq_false, Bool.false_eq_true, nI_leI, q40, b7, q2]
      · have e := (b8 q (by omega)).1
        have q3 : decide (0 ≤ (x q).toInt ∧ (x q).toInt < (6 : Int)) = false := decide_eq_false fun y => hno ⟨by omega, y⟩
        simp (maxSteps := 2000000) (disch := omega) only [f_M_dayMany_L2, gupE, gltE, gllE, litE, litLE, bindE, ↓reduceIte, gsi_at, gsi_l2, gsl_at, gsl_i1, upd_at, updL_at, Nat.reduceEqDiff, gix_nI, nI_clamp, bI_0, bI_gzb, Bool.true_eq_false, Bool.false_eq_true, nI_leI, q40, b7, q2, i_eq32, nI_add, e, isWeatherL, q3]
/-- the days' counts: some, just, dry, driest -/
def dst (h w : Nat) (a : Nat × Nat × Nat × Nat) : Nat × Nat × Nat × Nat :=
  let c := if h = 0 then a.2.2.1 + 1 else 0
  (a.1 + (if h = 0 then 0 else 1), a.2.1 + (if h = 2 ^ w then 1 else 0), c, max a.2.2.2 c)
def dacc (hs : Nat → Nat) (x : Nat → Int64) : Nat → Nat × Nat × Nat × Nat
  | 0 => (0, 0, 0, 0)
  | k + 1 => dst (hs k) (bv x k) (dacc hs x k)
theorem dacc_le (hs : Nat → Nat) (x : Nat → Int64) : ∀ k, (dacc hs x k).1 ≤ k ∧ (dacc hs x k).2.1 ≤ k ∧ (dacc hs x k).2.2.1 ≤ k ∧ (dacc hs x k).2.2.2 ≤ k
  | 0 => ⟨Nat.le_refl _, Nat.le_refl _, Nat.le_refl _, Nat.le_refl _⟩
  | k + 1 => by
    obtain ⟨h1, h2, h3, h4⟩ := dacc_le hs x k
    show (dst (hs k) (bv x k) (dacc hs x k)).1 ≤ _ ∧ _
    unfold dst
    refine ⟨?_, ?_, ?_, ?_⟩
    · show _ + (if hs k = 0 then 0 else 1) ≤ _
      split <;> omega
    · show _ + (if hs k = 2 ^ bv x k then 1 else 0) ≤ _
      split <;> omega
    · show (if hs k = 0 then _ else 0) ≤ _
      split <;> omega
    · show max _ (if hs k = 0 then _ else 0) ≤ _
      split <;> omega
def dans (v : Nat) (a : Nat × Nat × Nat × Nat) : Nat := if v = 0 then a.1 else if v = 1 then a.2.1 else a.2.2.2
theorem Tdays_L {σ : gS} {n : Nat} {K E P : Nat → Nat} {B : Nat → Int32} {F W D m : Nat} {V : VT} (h : Ctx σ n K E P B F W D m V) {d z q v : Nat} {x : Nat → Int64} (hd : d < 6) (hv : v < 3) (hB : BRow σ d z x) (hq : q ≤ 40) (h1 : ∀ i, i < q → bval x z 6 i) {hs : Nat → Nat} (hhs : ∀ i, i < q → Bits (hs i) (Hp n (sy V K E P B (bv x i) (min 99 (D + i))) K W (fun _ => True))) :
    ∃ τ, f_T_days_L59 gfu (nI v) (47 + 2 * d) (nI 0) (nI 0) (nI 0) (nI 0) (nI q) (nI 0) σ = some (nI (dans v (dacc hs x q)), τ) ∧ Frs σ τ := by
  refine loopG (fun fu i (a : gS) => f_T_days_L59 fu (nI v) (47 + 2 * d) (nI (dacc hs x i).1) (nI (dacc hs x i).2.1) (nI (dacc hs x i).2.2.1) (nI (dacc hs x i).2.2.2) (nI q) (nI i) a) (fun o => ∃ τ, o = some (nI (dans v (dacc hs x q)), τ) ∧ Frs σ τ) (fun _ a => Frs σ a) q 0 σ (by omega) (by omega) (Fr.rf _ _) ?_ ?_
  · intro fu i a hi hF
    left
    have hC := h.fr hF
    have hBa := hB.fr hd hF
    obtain ⟨b1, b2, b3, b4⟩ := bval.v hBa (h1 i hi)
    have hD : D < 100 := h.1.2.2.2.2.1
    obtain ⟨s, τ, e1, e2, e3⟩ := Cday hC (w := bv x i) (dd := min 99 (D + i)) b2 (by omega) (hhs i hi)
    have hr : Rg n (sy V K E P B (bv x i) (min 99 (D + i))) K W := sy_rg h.1.pm b2
    have hx6 : hs i < 64 := (hhs i hi).lt6 (Hp.lt hr)
    have hBt := hBa.fr hd e3
    obtain ⟨l1, l2, l3, l4⟩ := dacc_le hs x i
    have q1 : ¬ q ≤ i := by omega
    have s1 := small_eq hBa (show i < 1000 by omega)
    have s2 := small_eq hBt (show i < 1000 by omega)
    rw [b1] at s1 s2
    have hday : f_T_dayBehind (nI i) a = some (nI (min 99 (D + i))) := by
      unfold f_T_dayBehind
      rw [hC.1.2.2.2.2.2.1, nI_add]
      exact congrArg some (gmin_nI (a := 99) (by omega) (by omega))
    refine ⟨τ, ?_, hF.tr e3⟩
    have p6 : 2 ^ bv x i < 64 := Nat.pow_lt_pow_right (by decide) b2 (n := 6)
    show f_T_days_L59 (fu + 1) (nI v) (47 + 2 * d) (nI (dacc hs x i).1) (nI (dacc hs x i).2.1) (nI (dacc hs x i).2.2.1) (nI (dacc hs x i).2.2.2) (nI q) (nI i) a = f_T_days_L59 fu (nI v) (47 + 2 * d) (nI (dst (hs i) (bv x i) (dacc hs x i)).1) (nI (dst (hs i) (bv x i) (dacc hs x i)).2.1) (nI (dst (hs i) (bv x i) (dacc hs x i)).2.2.1) (nI (dst (hs i) (bv x i) (dacc hs x i)).2.2.2) (nI q) (nI (i + 1)) τ
    unfold dst
    have hj : ∀ s0 a4, f_T_days_j112 (fun v2 q3 v4 v5 v6 v7 v8 v9 σ => f_T_days_L59 fu v2 q3 v4 v5 v6 v7 v8 v9 σ) (nI v) (47 + 2 * d) (nI (dacc hs x i).2.1) (nI (dacc hs x i).2.2.1) (nI (dacc hs x i).2.2.2) (nI q) (nI i) (nI (hs i)) s0 a4 τ = f_T_days_L59 fu (nI v) (47 + 2 * d) (a4 + s0) (nI ((dacc hs x i).2.1 + (if hs i = 2 ^ bv x i then 1 else 0))) (nI (if hs i = 0 then (dacc hs x i).2.2.1 + 1 else 0)) (nI (max (dacc hs x i).2.2.2 (if hs i = 0 then (dacc hs x i).2.2.1 + 1 else 0))) (nI q) (nI (i + 1)) τ := by
      intro s0 a4
      unfold f_T_days_j112 f_T_days_j135 f_T_days_j151
      by_cases z0 : hs i = 0
      · by_cases z1 : hs i = 2 ^ bv x i
        · simp (maxSteps := 2000000) (disch := omega) only [gupE, gltE, gllE, litE, litLE, bindE, ↓reduceIte, gsi_at, gsi_l2, gsl_at, gsl_i1, upd_at, updL_at, Nat.reduceEqDiff, gix_nI, nI_clamp, bI_0, bI_gzb, Bool.true_eq_false, Bool.false_eq_true, s2, sh1, nI_eq, z1, nI_add, gmax_nI]
          have z2 : 2 ^ bv x i = 0 := z1 ▸ z0
          simp (disch := omega) only [z2, ↓reduceIte, nI_add, gmax_nI]
        · have z3 : ¬ 0 = 2 ^ bv x i := fun y => z1 (z0.trans y)
          simp (maxSteps := 2000000) (disch := omega) only [gupE, gltE, gllE, litE, litLE, bindE, ↓reduceIte, gsi_at, gsi_l2, gsl_at, gsl_i1, upd_at, updL_at, Nat.reduceEqDiff, gix_nI, nI_clamp, bI_0, bI_gzb, Bool.true_eq_false, Bool.false_eq_true, s2, sh1, nI_eq, z0, z3, nI_add, gmax_nI, Nat.add_zero]
      · by_cases z1 : hs i = 2 ^ bv x i
        · have z2 : ¬ 2 ^ bv x i = 0 := fun y => z0 (z1.trans y)
          simp (maxSteps := 2000000) (disch := omega) only [gupE, gltE, gllE, litE, litLE, bindE, ↓reduceIte, gsi_at, gsi_l2, gsl_at, gsl_i1, upd_at, updL_at, Nat.reduceEqDiff, gix_nI, nI_clamp, bI_0, bI_gzb, Bool.true_eq_false, Bool.false_eq_true, s2, sh1, nI_eq, z1, z2, nI_add, gmax_nI]
        · simp (maxSteps := 2000000) (disch := omega) only [gupE, gltE, gllE, litE, litLE, bindE, ↓reduceIte, gsi_at, gsi_l2, gsl_at, gsl_i1, upd_at, updL_at, Nat.reduceEqDiff, gix_nI, nI_clamp, bI_0, bI_gzb, Bool.true_eq_false, Bool.false_eq_true, s2, sh1, nI_eq, z0, z1, nI_add, gmax_nI, Nat.add_zero]
    by_cases z0 : hs i = 0
    · have z4 : nI (hs i) = nI 0 := by rw [z0]
      simp (maxSteps := 2000000) (disch := omega) only [f_T_days_L59, gupE, gltE, gllE, litE, litLE, bindE, ↓reduceIte, gsi_at, gsi_l2, gsl_at, gsl_i1, upd_at, updL_at, Nat.reduceEqDiff, gix_nI, nI_clamp, bI_0, bI_gzb, Bool.true_eq_false, Bool.false_eq_true, nI_leI, q1, s1, hday, e1, e2, z4]
      rw [← z4, hj]
      simp only [z0, ↓reduceIte, nI_add]
    · have z4 : ¬ nI (hs i) = nI 0 := by rw [nI_eq (by omega) (by omega)]; exact z0
      simp (maxSteps := 2000000) (disch := omega) only [f_T_days_L59, gupE, gltE, gllE, litE, litLE, bindE, ↓reduceIte, gsi_at, gsi_l2, gsl_at, gsl_i1, upd_at, updL_at, Nat.reduceEqDiff, gix_nI, nI_clamp, bI_0, bI_gzb, Bool.true_eq_false, Bool.false_eq_true, nI_leI, q1, s1, hday, e1, e2, z4]
      rw [hj]
      simp only [z0, ↓reduceIte, nI_add]
  · intro fu a hF
    refine ⟨a, ?_, hF⟩
    have q1 : nI q ≤ nI q := Int32.le_refl _
    have : v = 0 ∨ v = 1 ∨ v = 2 := by omega
    unfold dans
    rcases this with rfl | rfl | rfl
    · simp (maxSteps := 2000000) (disch := omega) only [f_T_days_L59, gupE, gltE, gllE, litE, litLE, bindE, ↓reduceIte, gsi_at, gsi_l2, gsl_at, gsl_i1, upd_at, updL_at, Nat.reduceEqDiff, gix_nI, nI_clamp, bI_0, bI_gzb, Bool.true_eq_false, Bool.false_eq_true, q1]
    · simp (maxSteps := 2000000) (disch := omega) only [f_T_days_L59, gupE, gltE, gllE, litE, litLE, bindE, ↓reduceIte, gsi_at, gsi_l2, gsl_at, gsl_i1, upd_at, updL_at, Nat.reduceEqDiff, gix_nI, nI_clamp, bI_0, bI_gzb, Bool.true_eq_false, Bool.false_eq_true, q1, nI_eq]
    · simp (maxSteps := 2000000) (disch := omega) only [f_T_days_L59, gupE, gltE, gllE, litE, litLE, bindE, ↓reduceIte, gsi_at, gsi_l2, gsl_at, gsl_i1, upd_at, updL_at, Nat.reduceEqDiff, gix_nI, nI_clamp, bI_0, bI_gzb, Bool.true_eq_false, Bool.false_eq_true, q1, nI_eq]
theorem Mdays_L {σ : gS} {n : Nat} {K E P : Nat → Nat} {B : Nat → Int32} {F W D : Nat} {V : VT} (h : CtM σ n K E P B F W D V) {d z q v : Nat} {x : Nat → Int64} (hd : d < 6) (hv : v < 3) (hB : MRow σ d z x) (hq : q ≤ 40) (h1 : ∀ i, i < q → bval x z 6 i) (h2 : q = 40 ∨ ¬ bval x z 6 q) {hs : Nat → Nat} (hhs : ∀ i, i < q → Bits (hs i) (Hp n (sy V K E P B (bv x i) (min 99 (D + i))) K W (fun _ => True))) :
    ∃ τ, f_M_days_L51 gfu (nI d) (nI v) (nI 0) (nI 0) (nI 0) (nI 0) (nI 0) σ = some (nI (dans v (dacc hs x q)), τ) ∧ Fr cSy σ τ := by
  refine loopG (fun fu i (a : gS) => f_M_days_L51 fu (nI d) (nI v) (nI (dacc hs x i).1) (nI (dacc hs x i).2.1) (nI (dacc hs x i).2.2.1) (nI (dacc hs x i).2.2.2) (nI i) a) (fun o => ∃ τ, o = some (nI (dans v (dacc hs x q)), τ) ∧ Fr cSy σ τ) (fun _ a => Fr cSy σ a) q 0 σ (by omega) (by omega) (Fr.rf _ _) ?_ ?_
  · intro fu i a hi hF
    left
    have hC := h.sy hF
    have hBa : MRow a d z x := hB.sy (fun k => hF.1 77 k rfl) (fun k => hF.2 78 k rfl)
    obtain ⟨b2, b3, b4⟩ := bval.m hBa (h1 i hi)
    have hD : D < 100 := h.1.2.2.2.2.1
    have hdm := MdayMany hd hBa hq h1 h2
    obtain ⟨τ, e1, e3⟩ := Mday hC hd hBa (h1 i hi) (hhs i hi)
    have hr : Rg n (sy V K E P B (bv x i) (min 99 (D + i))) K W := sy_rg h.1 b2
    have hx6 : hs i < 64 := (hhs i hi).lt6 (Hp.lt hr)
    have hz := hBa.1
    have hiz := (h1 i hi).1
    have ex : τ.2 78 (60 * d + i) = lN (bv x i) := by
      rw [e3.2 78 _ rfl]
      exact ((hBa.2.2 i (by omega)).1).trans b4
    obtain ⟨l1, l2, l3, l4⟩ := dacc_le hs x i
    have q1 : ¬ q ≤ i := by omega
    refine ⟨τ, ?_, hF.tr e3⟩
    have p6 : 2 ^ bv x i < 64 := Nat.pow_lt_pow_right (by decide) b2 (n := 6)
    show f_M_days_L51 (fu + 1) (nI d) (nI v) (nI (dacc hs x i).1) (nI (dacc hs x i).2.1) (nI (dacc hs x i).2.2.1) (nI (dacc hs x i).2.2.2) (nI i) a = f_M_days_L51 fu (nI d) (nI v) (nI (dst (hs i) (bv x i) (dacc hs x i)).1) (nI (dst (hs i) (bv x i) (dacc hs x i)).2.1) (nI (dst (hs i) (bv x i) (dacc hs x i)).2.2.1) (nI (dst (hs i) (bv x i) (dacc hs x i)).2.2.2) (nI (i + 1)) τ
    unfold dst
    have jl : ∀ a3 a4 c, c ≤ 100 → f_M_days_j126 (fun v1 v2 v3 v4 v5 v6 v7 σ => f_M_days_L51 fu v1 v2 v3 v4 v5 v6 v7 σ) (nI d) (nI v) a3 a4 (nI (dacc hs x i).2.2.2) (nI i) (nI c) τ = f_M_days_L51 fu (nI d) (nI v) a3 a4 (nI c) (nI (max (dacc hs x i).2.2.2 c)) (nI (i + 1)) τ := by
      intro a3 a4 c hc
      unfold f_M_days_j126 f_M_days_j142
      by_cases g : c ≤ (dacc hs x i).2.2.2
      · rw [Nat.max_eq_left g]
        simp (maxSteps := 2000000) (disch := omega) only [gupE, gltE, gllE, litE, litLE, bindE, ↓reduceIte, gsi_at, gsi_l2, gsl_at, gsl_i1, upd_at, updL_at, Nat.reduceEqDiff, gix_nI, nI_clamp, bI_0, bI_gzb, Bool.true_eq_false, Bool.false_eq_true, nI_leI, g, nI_add]
      · rw [Nat.max_eq_right (by omega)]
        simp (maxSteps := 2000000) (disch := omega) only [gupE, gltE, gllE, litE, litLE, bindE, ↓reduceIte, gsi_at, gsi_l2, gsl_at, gsl_i1, upd_at, updL_at, Nat.reduceEqDiff, gix_nI, nI_clamp, bI_0, bI_gzb, Bool.true_eq_false, Bool.false_eq_true, nI_leI, g, nI_add]
    have hj : ∀ s0 a4, f_M_days_j81 (fun v1 v2 v3 v4 v5 v6 v7 σ => f_M_days_L51 fu v1 v2 v3 v4 v5 v6 v7 σ) (nI d) (nI v) (nI (dacc hs x i).2.1) (nI (dacc hs x i).2.2.1) (nI (dacc hs x i).2.2.2) (nI i) (nI (hs i)) s0 a4 τ = f_M_days_L51 fu (nI d) (nI v) (a4 + s0) (nI ((dacc hs x i).2.1 + (if hs i = 2 ^ bv x i then 1 else 0))) (nI (if hs i = 0 then (dacc hs x i).2.2.1 + 1 else 0)) (nI (max (dacc hs x i).2.2.2 (if hs i = 0 then (dacc hs x i).2.2.1 + 1 else 0))) (nI (i + 1)) τ := by
      intro s0 a4
      unfold f_M_days_j81 f_M_days_j110
      by_cases z0 : hs i = 0
      · by_cases z1 : hs i = 2 ^ bv x i
        · simp (maxSteps := 2000000) (disch := omega) only [gupE, gltE, gllE, litE, litLE, bindE, ↓reduceIte, gsi_at, gsi_l2, gsl_at, gsl_i1, upd_at, updL_at, Nat.reduceEqDiff, gix_nI, nI_clamp, bI_0, bI_gzb, Bool.true_eq_false, Bool.false_eq_true, i_eq32, nI_add, ex, lNi, sh1, nI_eq, z1, jl]
          have z2 : 2 ^ bv x i = 0 := z1 ▸ z0
          simp (disch := omega) only [z2, ↓reduceIte, nI_add, jl]
        · have z3 : ¬ 0 = 2 ^ bv x i := fun y => z1 (z0.trans y)
          simp (maxSteps := 2000000) (disch := omega) only [gupE, gltE, gllE, litE, litLE, bindE, ↓reduceIte, gsi_at, gsi_l2, gsl_at, gsl_i1, upd_at, updL_at, Nat.reduceEqDiff, gix_nI, nI_clamp, bI_0, bI_gzb, Bool.true_eq_false, Bool.false_eq_true, i_eq32, nI_add, ex, lNi, sh1, nI_eq, z0, z3, jl, Nat.add_zero]
      · by_cases z1 : hs i = 2 ^ bv x i
        · have z2 : ¬ 2 ^ bv x i = 0 := fun y => z0 (z1.trans y)
          simp (maxSteps := 2000000) (disch := omega) only [gupE, gltE, gllE, litE, litLE, bindE, ↓reduceIte, gsi_at, gsi_l2, gsl_at, gsl_i1, upd_at, updL_at, Nat.reduceEqDiff, gix_nI, nI_clamp, bI_0, bI_gzb, Bool.true_eq_false, Bool.false_eq_true, i_eq32, nI_add, ex, lNi, sh1, nI_eq, z1, z2, jl]
        · simp (maxSteps := 2000000) (disch := omega) only [gupE, gltE, gllE, litE, litLE, bindE, ↓reduceIte, gsi_at, gsi_l2, gsl_at, gsl_i1, upd_at, updL_at, Nat.reduceEqDiff, gix_nI, nI_clamp, bI_0, bI_gzb, Bool.true_eq_false, Bool.false_eq_true, i_eq32, nI_add, ex, lNi, sh1, nI_eq, z0, z1, jl, Nat.add_zero]
    by_cases z0 : hs i = 0
    · have z4 : nI (hs i) = nI 0 := by rw [z0]
      simp (maxSteps := 2000000) (disch := omega) only [f_M_days_L51, gupE, gltE, gllE, litE, litLE, bindE, ↓reduceIte, gsi_at, gsi_l2, gsl_at, gsl_i1, upd_at, updL_at, Nat.reduceEqDiff, gix_nI, nI_clamp, bI_0, bI_gzb, Bool.true_eq_false, Bool.false_eq_true, hdm, nI_leI, q1, e1, z4]
      rw [← z4, hj]
      simp only [z0, ↓reduceIte, nI_add]
    · have z4 : ¬ nI (hs i) = nI 0 := by rw [nI_eq (by omega) (by omega)]; exact z0
      simp (maxSteps := 2000000) (disch := omega) only [f_M_days_L51, gupE, gltE, gllE, litE, litLE, bindE, ↓reduceIte, gsi_at, gsi_l2, gsl_at, gsl_i1, upd_at, updL_at, Nat.reduceEqDiff, gix_nI, nI_clamp, bI_0, bI_gzb, Bool.true_eq_false, Bool.false_eq_true, hdm, nI_leI, q1, e1, z4]
      rw [hj]
      simp only [z0, ↓reduceIte, nI_add]
  · intro fu a hF
    refine ⟨a, ?_, hF⟩
    have hBa : MRow a d z x := hB.sy (fun k => hF.1 77 k rfl) (fun k => hF.2 78 k rfl)
    have hdm := MdayMany hd hBa hq h1 h2
    have q1 : nI q ≤ nI q := Int32.le_refl _
    have : v = 0 ∨ v = 1 ∨ v = 2 := by omega
    unfold dans
    rcases this with rfl | rfl | rfl
    · simp (maxSteps := 2000000) (disch := omega) only [f_M_days_L51, gupE, gltE, gllE, litE, litLE, bindE, ↓reduceIte, gsi_at, gsi_l2, gsl_at, gsl_i1, upd_at, updL_at, Nat.reduceEqDiff, gix_nI, nI_clamp, bI_0, bI_gzb, Bool.true_eq_false, Bool.false_eq_true, hdm, q1]
    · simp (maxSteps := 2000000) (disch := omega) only [f_M_days_L51, gupE, gltE, gllE, litE, litLE, bindE, ↓reduceIte, gsi_at, gsi_l2, gsl_at, gsl_i1, upd_at, updL_at, Nat.reduceEqDiff, gix_nI, nI_clamp, bI_0, bI_gzb, Bool.true_eq_false, Bool.false_eq_true, hdm, q1, nI_eq]
    · simp (maxSteps := 2000000) (disch := omega) only [f_M_days_L51, gupE, gltE, gllE, litE, litLE, bindE, ↓reduceIte, gsi_at, gsi_l2, gsl_at, gsl_i1, upd_at, updL_at, Nat.reduceEqDiff, gix_nI, nI_clamp, bI_0, bI_gzb, Bool.true_eq_false, Bool.false_eq_true, hdm, q1, nI_eq]
theorem day_sets (n : Nat) (V : VT) (K E P : Nat → Nat) (B : Nat → Int32) (W D : Nat) (x : Nat → Int64) (z : Nat) (hR : ∀ w d, w < 6 → Rg n (sy V K E P B w d) K W) (q : Nat) (h1 : ∀ i, i < q → bv x i < 6) : ∃ hs : Nat → Nat, ∀ i, i < q → Bits (hs i) (Hp n (sy V K E P B (bv x i) (min 99 (D + i))) K W (fun _ => True)) := by
  have : ∀ i, ∃ h, i < q → Bits h (Hp n (sy V K E P B (bv x i) (min 99 (D + i))) K W (fun _ => True)) := by
    intro i
    obtain ⟨h, hh⟩ := Bits.ex (Hp n (sy V K E P B (bv x i) (min 99 (D + i))) K W (fun _ => True)) 6
    exact ⟨h, fun hi => hh.cg fun w => ⟨fun y => y.2, fun y => ⟨Hp.lt (hR _ _ (h1 i hi)) w y, y⟩⟩⟩
  obtain ⟨f, hf⟩ := Classical.axiomOfChoice this
  exact ⟨f, hf⟩
