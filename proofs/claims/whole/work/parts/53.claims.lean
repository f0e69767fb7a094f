/-! pure: claims, happens -/
/-- who came by the first k claims, q of which tell somebody -/
def Cm (x : Nat → Int64) (q k c : Nat) : Prop := ∃ j, j < k ∧ j < q ∧ bv x j = c
theorem Cm.succ {x : Nat → Int64} {q k : Nat} (h : k < q) (c : Nat) : Cm x q (k + 1) c ↔ Cm x q k c ∨ c = bv x k := by
  constructor
  · rintro ⟨j, h1, h2, h3⟩
    by_cases e : j = k
    · subst e
      exact Or.inr h3.symm
    · exact Or.inl ⟨j, by omega, h2, h3⟩
  · rintro (⟨j, h1, h2, h3⟩ | rfl)
    · exact ⟨j, by omega, h2, h3⟩
    · exact ⟨k, by omega, h, rfl⟩
theorem Cm.ge {x : Nat → Int64} {q k : Nat} (h : q ≤ k) (c : Nat) : Cm x q k c ↔ Cm x q q c :=
  ⟨fun ⟨j, _, h2, h3⟩ => ⟨j, h2, h2, h3⟩, fun ⟨j, _, h2, h3⟩ => ⟨j, by omega, h2, h3⟩⟩
theorem Hp.mono {n : Nat} {s K : Nat → Nat} {W : Nat} {T T2 : Nat → Prop} (h : ∀ j, T j → T2 j) {w : Nat} : Hp n s K W T w → Hp n s K W T2 w := fun ⟨a, b, h1, h2, h3, h4, h5⟩ => ⟨a, b, h1, h2, h a h3, h b h4, h5⟩
theorem Cm.mono {x : Nat → Int64} {q k k' : Nat} (h : k ≤ k') (c : Nat) (hc : Cm x q k c) : Cm x q k' c := by
  obtain ⟨j, h1, h2, h3⟩ := hc
  exact ⟨j, by omega, h2, h3⟩
theorem Hp.ins {n : Nat} {s K : Nat → Nat} {W v : Nat} {T : Nat → Prop} (hv : v < n) (w : Nat) : Hp n s K W (fun c => T c ∨ c = v) w ↔ Hp n s K W T w ∨ (¬ T v ∧ ∃ o, o < n ∧ T o ∧ agr s K W v o ∧ min (s v) (s o) = w) := by
  constructor
  · rintro ⟨a, b, h1, h2, h3, h4, h5, h6⟩
    by_cases tv : T v
    · left
      exact ⟨a, b, h1, h2, h3.elim id fun e => e ▸ tv, h4.elim id fun e => e ▸ tv, h5, h6⟩
    · rcases h3 with h3 | rfl
      · rcases h4 with h4 | rfl
        · exact Or.inl ⟨a, b, h1, h2, h3, h4, h5, h6⟩
        · exact Or.inr ⟨tv, a, h2, h3, h5.cm, by rw [Nat.min_comm]; exact h6⟩
      · rcases h4 with h4 | h4
        · exact Or.inr ⟨tv, b, by omega, h4, h5, h6⟩
        · omega
  · rintro (h | ⟨h1, o, h2, h3, h4, h5⟩)
    · exact Hp.mono (fun j hj => Or.inl hj) h
    · have := Hp.mk (T := fun c => T c ∨ c = v) hv h2 (Or.inr rfl) (Or.inl h3) h4
      rw [h5] at this
      exact this
theorem MclaimMany {τ : gS} {d z n q : Nat} {x : Nat → Int64} (hd : d < 6) (h6 : τ.1 59 6 = nI n) (hn : n ≤ 10) (hB : BRow τ d z x) (hq : q ≤ 40) (h1 : ∀ i, i < q → bval x z n i) (h2 : q = 40 ∨ ¬ bval x z n q) : f_M_claimMany (nI d) τ = some (nI q) := by
  obtain ⟨hz, -, b7, b8⟩ := id hB
  unfold f_M_claimMany
  simp only [litE]
  refine loopG (fun fu i (_ : Nat) => f_M_claimMany_L2 τ fu (nI d) (nI i)) (fun o => o = some (nI q)) (fun _ _ => True) q 0 0 (by omega) (by omega) trivial ?_ ?_
  · intro fu i a hi _
    left
    refine ⟨0, ?_, trivial⟩
    have v1 := h1 i hi
    have e := (b8 i (by have := v1.1; omega)).2.1
    have q1 : ¬ 40 ≤ i := by omega
    have q2 : ¬ z ≤ i := by have := v1.1; omega
    have q3 : decide (0 ≤ (x i).toInt ∧ (x i).toInt < (n : Int)) = true := decide_eq_true v1.2
    simp (maxSteps := 2000000) (disch := omega) only [f_M_claimMany_L2, gupE, gltE, gllE, litE, litLE, bindE, ↓reduceIte, gsi_at, gsi_l2, gsl_at, gsl_i1, upd_at, updL_at, Nat.reduceEqDiff, gix_nI, nI_clamp, bI_0, bI_gzb, Bool.true_eq_false, Bool.false_eq_true, nI_leI, q1, b7, q2, i_eq32, nI_add, e, isOneL h6 hn, q3]
  · intro fu a _
    by_cases q40 : 40 ≤ q
    · simp (maxSteps := 2000000) (disch := omega) only [f_M_claimMany_L2, gupE, gltE, gllE, litE, litLE, bindE, ↓reduceIte, gsi_at, gsi_l2, gsl_at, gsl_i1, upd_at, updL_at, Nat.reduceEqDiff, gix_nI, nI_clamp, bI_0, bI_gzb, Bool.true_eq_false, Bool.false_eq_true, nI_leI, q40]
    · have hno : ¬ bval x z n q := h2.elim (fun e => absurd e (by omega)) id
      by_cases q2 : z ≤ q
      · simp (maxSteps := 2000000) (disch := omega) only [f_M_claimMany_L2, gupE, gltE, gllE, litE, litLE, bindE, ↓reduceIte, gsi_at, gsi_l2, gsl_at, gsl_i1, upd_at, updL_at, Nat.reduceEqDiff, gix_nI, nI_clamp, bI_0, bI_gzb, Bool.true_eq_false, Bool.false_eq_true, nI_leI, q40, b7, q2]
      · have e := (b8 q (by omega)).2.1
        have q3 : decide (0 ≤ (x q).toInt ∧ (x q).toInt < (n : Int)) = false := decide_eq_false fun y => hno ⟨by omega, y⟩
        simp (maxSteps := 2000000) (disch := omega) only [f_M_claimMany_L2, gupE, gltE, gllE, litE, litLE, bindE, ↓reduceIte, gsi_at, gsi_l2, gsl_at, gsl_i1, upd_at, updL_at, Nat.reduceEqDiff, gix_nI, nI_clamp, bI_0, bI_gzb, Bool.true_eq_false, Bool.false_eq_true, nI_leI, q40, b7, q2, i_eq32, nI_add, e, isOneL h6 hn, q3]
theorem Mcame {τ : gS} {d z n q k : Nat} {x : Nat → Int64} (hd : d < 6) (h6 : τ.1 59 6 = nI n) (hn : n ≤ 10) (hB : BRow τ d z x) (hq : q ≤ 40) (h1 : ∀ i, i < q → bval x z n i) (h2 : q = 40 ∨ ¬ bval x z n q) (hk : k < 100) : ∃ m, f_M_cameBy (nI d) (nI k) τ = some (nI m) ∧ m < 1024 ∧ Bits m (Cm x q k) := by
  obtain ⟨hz, -, b7, b8⟩ := id hB
  have hcm := MclaimMany hd h6 hn hB hq h1 h2
  have lt : ∀ (m i : Nat), Bits m (Cm x q i) → m < 1024 := by
    intro m i hm
    refine hm.lt (k := 10) ?_
    rintro c ⟨j, -, hj, rfl⟩
    have := (bval.v hB (h1 j hj)).2.1
    omega
  unfold f_M_cameBy
  simp only [litE]
  refine loopG (fun fu i a => f_M_cameBy_L5 τ fu (nI d) (nI k) (nI a) (nI i)) (fun o => ∃ m, o = some (nI m) ∧ m < 1024 ∧ Bits m (Cm x q k)) (fun i a => Bits a (Cm x q i)) (min k q) 0 0 (by omega) (by omega) (Bits.zero.cg fun c => ⟨False.elim, fun ⟨j, h, _⟩ => by omega⟩) ?_ ?_
  · intro fu i a hi hp
    left
    have v1 := h1 i (by omega)
    obtain ⟨e1, e2, e3, e4⟩ := bval.v hB v1
    have e := (b8 i (by have := v1.1; omega)).2.1
    have q1 : ¬ k ≤ i := by omega
    have q2 : ¬ q ≤ i := by omega
    have l : (lN (bv x i)).toInt32 = nI (bv x i) := lN_i _
    refine ⟨a ||| 2 ^ bv x i, ?_, hp.or.cg fun c => (Cm.succ (by omega) c).symm⟩
    simp (maxSteps := 2000000) (disch := omega) only [f_M_cameBy_L5, gupE, gltE, gllE, litE, litLE, bindE, ↓reduceIte, gsi_at, gsi_l2, gsl_at, gsl_i1, upd_at, updL_at, Nat.reduceEqDiff, gix_nI, nI_clamp, bI_0, bI_gzb, Bool.true_eq_false, Bool.false_eq_true, nI_leI, q1, hcm, q2, i_eq32, nI_add, e]
    rw [e4]
    simp (disch := omega) only [l, sh1, nI_or]
  · intro fu a hp
    have hf : Bits a (Cm x q k) := hp.cg fun c => by
      by_cases q1 : k ≤ q
      · rw [Nat.min_eq_left q1]
      · rw [Nat.min_eq_right (by omega), Cm.ge (k := k) (by omega)]
    refine ⟨a, ?_, lt a _ hf, hf⟩
    by_cases q1 : k ≤ min k q
    · simp (maxSteps := 2000000) (disch := omega) only [f_M_cameBy_L5, gupE, gltE, gllE, litE, litLE, bindE, ↓reduceIte, gsi_at, gsi_l2, gsl_at, gsl_i1, upd_at, updL_at, Nat.reduceEqDiff, gix_nI, nI_clamp, bI_0, bI_gzb, Bool.true_eq_false, Bool.false_eq_true, nI_leI, q1]
    · have q2 : q ≤ min k q := by omega
      simp (maxSteps := 2000000) (disch := omega) only [f_M_cameBy_L5, gupE, gltE, gllE, litE, litLE, bindE, ↓reduceIte, gsi_at, gsi_l2, gsl_at, gsl_i1, upd_at, updL_at, Nat.reduceEqDiff, gix_nI, nI_clamp, bI_0, bI_gzb, Bool.true_eq_false, Bool.false_eq_true, nI_leI, q1, hcm, q2]
/-- one more claim, in the class -/
theorem Cmet {τ : gS} {d z n q W i : Nat} {x : Nat → Int64} {s K : Nat → Nat} (hM : CS 11 τ n s K W) (hR : Rg n s K W) (hB : BRow τ d z x) (h1 : ∀ i, i < q → bval x z n i) (hi : i < q) {m b : Nat} (hm : Bits m (Cm x q i)) (hb : Bits b (Hp n s K W (Cm x q i))) :
    ∃ h, f_Cr_metBy 11 (nI (bv x i)) (nI m) τ = some (nI h) ∧ Bits (m ||| 2 ^ bv x i) (Cm x q (i + 1)) ∧ Bits (b ||| h) (Hp n s K W (Cm x q (i + 1))) ∧ (∀ w, h.testBit w = true ↔ ¬ Hp n s K W (Cm x q i) w ∧ Hp n s K W (Cm x q (i + 1)) w ∨ (Hp n s K W (Cm x q i) w ∧ h.testBit w = true)) ∧ h < 64 := by
  obtain ⟨e1, e2, e3, e4⟩ := bval.v hB (h1 i hi)
  have hm10 : m < 1024 := by
    refine hm.lt (k := 10) ?_
    rintro c ⟨j, -, hj, rfl⟩
    have := (bval.v hB (h1 j hj)).2.1
    have := hR.1
    omega
  obtain ⟨h, f1, f2⟩ := CmetBy hM hR e2 hm10
  have hh : ∀ w, h.testBit w = true ↔ (¬ Cm x q i (bv x i) ∧ ∃ o, o < n ∧ Cm x q i o ∧ agr s K W (bv x i) o ∧ min (s (bv x i)) (s o) = w) := by
    intro w
    rw [f2 w]
    have hmv := hm (bv x i)
    constructor
    · rintro ⟨g1, o, g2, g3, g4⟩
      refine ⟨fun z => ?_, o, g2, (hm o).mp g3, g4⟩
      rw [hmv.mpr z] at g1
      cases g1
    · rintro ⟨g1, o, g2, g3, g4⟩
      refine ⟨?_, o, g2, (hm o).mpr g3, g4⟩
      cases t : m.testBit (bv x i) with
      | false => rfl
      | true => exact absurd (hmv.mp t) g1
  have hins : ∀ w, Hp n s K W (Cm x q (i + 1)) w ↔ Hp n s K W (Cm x q i) w ∨ h.testBit w = true := by
    intro w
    rw [Hp.cg (T2 := fun c => Cm x q i c ∨ c = bv x i) (fun j _ => Cm.succ hi j) w, Hp.ins e2 w, hh w]
  refine ⟨h, f1, hm.or.cg fun c => (Cm.succ hi c).symm, fun w => ?_, fun w => ?_, f2.lt (k := 6) fun w hw => Mt.lt hR e2 w hw.2⟩
  · rw [Nat.testBit_or, Bool.or_eq_true, hb w, hins w]
  · rw [hins w]
    by_cases z1 : Hp n s K W (Cm x q i) w
    · simp [z1]
    · simp [z1]
theorem nz_iff {h : Nat} : (h ≠ 0) ↔ ∃ w, h.testBit w = true := by
  constructor
  · intro q
    refine Classical.byContradiction fun z => q (Nat.eq_of_testBit_eq fun i => ?_)
    rw [Nat.zero_testBit]
    cases e : h.testBit i with
    | false => rfl
    | true => exact absurd ⟨i, e⟩ z
  · rintro ⟨w, e⟩ rfl
    simp at e
theorem Tclaims_L {τ : gS} {d z n q W k v : Nat} {x : Nat → Int64} {s K : Nat → Nat} (hd : d < 6) (h16 : τ.1 1 6 = nI n) (hM : CS 11 τ n s K W) (hR : Rg n s K W) (hB : BRow τ d z x) (hq : q ≤ 40) (h1 : ∀ i, i < q → bval x z n i) (h2 : q = 40 ∨ ¬ bval x z n q) (hk : k ≤ 40) :
    ∃ (m b : Nat) (f : Int32), f_T_claims_L75 gfu (nI k) (nI v) (47 + 2 * d) (nI 0) (nI 0) (-nI 2) (nI 0) τ = f_T_claims_j162 (nI v) (nI m) (nI b) f τ ∧ Bits m (Cm x q k) ∧ Bits b (Hp n s K W (Cm x q k)) ∧
      ((f = -nI 2 ∧ ∀ w, ¬ Hp n s K W (Cm x q k) w) ∨ ∃ j, j < k ∧ f = nI j ∧ (∃ w, Hp n s K W (Cm x q (j + 1)) w) ∧ ∀ w, ¬ Hp n s K W (Cm x q j) w) := by
  have hn := hR.1
  refine loopG (fun fu i (a : Nat × Nat × Int32) => f_T_claims_L75 fu (nI k) (nI v) (47 + 2 * d) (nI a.1) (nI a.2.1) a.2.2 (nI i) τ)
    (fun o => ∃ (m b : Nat) (f : Int32), o = f_T_claims_j162 (nI v) (nI m) (nI b) f τ ∧ Bits m (Cm x q k) ∧ Bits b (Hp n s K W (Cm x q k)) ∧ ((f = -nI 2 ∧ ∀ w, ¬ Hp n s K W (Cm x q k) w) ∨ ∃ j, j < k ∧ f = nI j ∧ (∃ w, Hp n s K W (Cm x q (j + 1)) w) ∧ ∀ w, ¬ Hp n s K W (Cm x q j) w))
    (fun i a => Bits a.1 (Cm x q i) ∧ Bits a.2.1 (Hp n s K W (Cm x q i)) ∧ ((a.2.2 = -nI 2 ∧ ∀ w, ¬ Hp n s K W (Cm x q i) w) ∨ ∃ j, j < i ∧ a.2.2 = nI j ∧ (∃ w, Hp n s K W (Cm x q (j + 1)) w) ∧ ∀ w, ¬ Hp n s K W (Cm x q j) w))
    (min k q) 0 (0, 0, -nI 2) (by omega) (by omega) ⟨Bits.zero.cg fun c => ⟨False.elim, fun ⟨j, h, _⟩ => absurd h (Nat.not_lt_zero j)⟩, Bits.zero.cg fun w => ⟨False.elim, fun ⟨a, b, _, _, ⟨j, h, _⟩, _⟩ => absurd h (Nat.not_lt_zero j)⟩, Or.inl ⟨rfl, fun w ⟨a, b, _, _, ⟨j, h, _⟩, _⟩ => absurd h (Nat.not_lt_zero j)⟩⟩ ?_ ?_
  · rintro fu i ⟨m, b, f⟩ hi ⟨p1, p2, p3⟩
    left
    simp only at p1 p2 p3
    obtain ⟨h, f1, f2, f3, f4, f5⟩ := Cmet hM hR hB h1 (show i < q by omega) p1 p2
    obtain ⟨e1, e2, e3, e4⟩ := bval.v hB (h1 i (by omega))
    have hin := bval_inb hB (show n < 1000 by omega) (h1 i (by omega))
    have q1 : ¬ k ≤ i := by omega
    have hsm := small_eq hB (show i < 1000 by omega)
    have jj : ∀ f', f_T_claims_j135 (fun v2 v3 q4 v5 v6 v7 v8 σ => f_T_claims_L75 fu v2 v3 q4 v5 v6 v7 v8 σ) (nI k) (nI v) (47 + 2 * d) (nI m) (nI b) f' (nI i) (nI h) τ = f_T_claims_L75 fu (nI k) (nI v) (47 + 2 * d) (nI (m ||| 2 ^ bv x i)) (nI (b ||| h)) f' (nI (i + 1)) τ := by
      intro f'
      unfold f_T_claims_j135
      simp (disch := omega) only [hsm, e1, bindE, gltE, litE, sh1, nI_or, nI_add]
    have ne2 : ∀ j, j < 100 → ¬ nI j = -nI 2 := fun j hj q => by
      have : nI j = nI 4294967294 := q.trans (by decide)
      have h2 : (nI j).toInt = (nI 4294967294).toInt := by rw [this]
      rw [nI_toInt (by omega)] at h2
      have : (nI 4294967294).toInt = -2 := by decide
      omega
    have step : ∀ f', (h = 0 → f' = f) → (h ≠ 0 → f' = if f = -nI 2 then nI i else f) → f_T_claims_L75 (fu + 1) (nI k) (nI v) (47 + 2 * d) (nI m) (nI b) f (nI i) τ = f_T_claims_L75 fu (nI k) (nI v) (47 + 2 * d) (nI (m ||| 2 ^ bv x i)) (nI (b ||| h)) f' (nI (i + 1)) τ := by
      intro f' g1 g2
      rw [← jj f']
      rw [e1] at hin
      by_cases h0 : h = 0
      · rw [g1 h0]
        subst h0
        simp (maxSteps := 2000000) (disch := omega) only [f_T_claims_L75, gupE, gltE, gllE, litE, litLE, bindE, ↓reduceIte, gsi_at, gsi_l2, gsl_at, gsl_i1, upd_at, updL_at, Nat.reduceEqDiff, gix_nI, nI_clamp, bI_0, bI_gzb, Bool.true_eq_false, Bool.false_eq_true, nI_leI, q1, hsm, e1, h16, within_eq, hin, f1]
      · rw [g2 h0]
        have hz : ¬ nI h = nI 0 := by rw [nI_eq (by omega) (by omega)]; exact h0
        by_cases hf : f = -nI 2
        · subst hf
          simp (maxSteps := 2000000) (disch := omega) only [f_T_claims_L75, gupE, gltE, gllE, litE, litLE, bindE, ↓reduceIte, gsi_at, gsi_l2, gsl_at, gsl_i1, upd_at, updL_at, Nat.reduceEqDiff, gix_nI, nI_clamp, bI_0, bI_gzb, Bool.true_eq_false, Bool.false_eq_true, nI_leI, q1, hsm, e1, h16, within_eq, hin, f1, hz]
        · simp (maxSteps := 2000000) (disch := omega) only [f_T_claims_L75, gupE, gltE, gllE, litE, litLE, bindE, ↓reduceIte, gsi_at, gsi_l2, gsl_at, gsl_i1, upd_at, updL_at, Nat.reduceEqDiff, gix_nI, nI_clamp, bI_0, bI_gzb, Bool.true_eq_false, Bool.false_eq_true, nI_leI, q1, hsm, e1, h16, within_eq, hin, f1, hz, hf]
    rcases p3 with ⟨rfl, p3⟩ | ⟨j, g1, rfl, g2, g3⟩
    · by_cases h0 : h = 0
      · refine ⟨(m ||| 2 ^ bv x i, b ||| h, -nI 2), step _ (fun _ => rfl) (fun q => absurd h0 q), f2, f3, Or.inl ⟨rfl, fun w hw => ?_⟩⟩
        have := (f4 w).mpr (Or.inl ⟨p3 w, hw⟩)
        rw [h0] at this
        simp at this
      · refine ⟨(m ||| 2 ^ bv x i, b ||| h, nI i), step _ (fun q => absurd q h0) (fun _ => by rw [if_pos rfl]), f2, f3, Or.inr ⟨i, by omega, rfl, ?_, p3⟩⟩
        obtain ⟨w, hw⟩ := nz_iff.mp h0
        rcases (f4 w).mp hw with g | g
        · exact ⟨w, g.2⟩
        · exact absurd g.1 (p3 w)
    · refine ⟨(m ||| 2 ^ bv x i, b ||| h, nI j), step _ (fun _ => rfl) (fun _ => by rw [if_neg (ne2 j (by omega))]), f2, f3, Or.inr ⟨j, by omega, rfl, g2, g3⟩⟩
  · rintro fu ⟨m, b, f⟩ ⟨p1, p2, p3⟩
    simp only at p1 p2 p3
    have hcg : ∀ c, Cm x q (min k q) c ↔ Cm x q k c := fun c => by
      by_cases q1 : k ≤ q
      · rw [Nat.min_eq_left q1]
      · rw [Nat.min_eq_right (by omega), Cm.ge (k := k) (by omega)]
    have hHp : ∀ w, Hp n s K W (Cm x q (min k q)) w ↔ Hp n s K W (Cm x q k) w := fun w => Hp.cg (fun j _ => hcg j) w
    refine ⟨m, b, f, ?_, p1.cg hcg, p2.cg hHp, ?_⟩
    · by_cases q1 : k ≤ min k q
      · simp (maxSteps := 2000000) (disch := omega) only [f_T_claims_L75, gupE, gltE, gllE, litE, litLE, bindE, ↓reduceIte, gsi_at, gsi_l2, gsl_at, gsl_i1, upd_at, updL_at, Nat.reduceEqDiff, gix_nI, nI_clamp, bI_0, bI_gzb, Bool.true_eq_false, Bool.false_eq_true, nI_leI, q1]
      · have q2 : min k q = q := by omega
        rw [q2] at q1 ⊢
        have hno : ¬ bval x z n q := h2.elim (fun e => absurd e (by omega)) id
        have hin := bval_not hB (show n < 1000 by omega) hno
        have hsm := small_eq hB (show q < 1000 by omega)
        simp (maxSteps := 2000000) (disch := omega) only [f_T_claims_L75, gupE, gltE, gllE, litE, litLE, bindE, ↓reduceIte, gsi_at, gsi_l2, gsl_at, gsl_i1, upd_at, updL_at, Nat.reduceEqDiff, gix_nI, nI_clamp, bI_0, bI_gzb, Bool.true_eq_false, Bool.false_eq_true, nI_leI, q1, hsm, h16, within_eq, hin]
    · rcases p3 with ⟨g1, g2⟩ | ⟨j, g1, g2, g3, g4⟩
      · exact Or.inl ⟨g1, fun w hw => g2 w ((hHp w).mpr hw)⟩
      · exact Or.inr ⟨j, by omega, g2, g3, g4⟩
theorem Mclaims_L {τ : gS} {d z n q W k : Nat} {x : Nat → Int64} {s K : Nat → Nat} (hd : d < 6) (hM : MS τ n s K W) (hR : Rg n s K W) (hB : BRow τ d z x) (hq : q ≤ 40) (h1 : ∀ i, i < q → bval x z n i) (h2 : q = 40 ∨ ¬ bval x z n q) (hk : k ≤ 40) :
    (∃ j, j < k ∧ f_M_claims_L61 gfu (nI d) (nI k) (nI 0) τ = some (nI j, τ) ∧ (∃ w, Hp n s K W (Cm x q (j + 1)) w) ∧ ∀ w, ¬ Hp n s K W (Cm x q j) w) ∨ (f_M_claims_L61 gfu (nI d) (nI k) (nI 0) τ = some (-nI 2, τ) ∧ ∀ w, ¬ Hp n s K W (Cm x q k) w) := by
  have hn := hR.1
  have h6 := hM.1.1
  refine loopG (fun fu i (_ : Nat) => f_M_claims_L61 fu (nI d) (nI k) (nI i) τ) (fun o => (∃ j, j < k ∧ o = some (nI j, τ) ∧ (∃ w, Hp n s K W (Cm x q (j + 1)) w) ∧ ∀ w, ¬ Hp n s K W (Cm x q j) w) ∨ (o = some (-nI 2, τ) ∧ ∀ w, ¬ Hp n s K W (Cm x q k) w)) (fun i _ => ∀ w, ¬ Hp n s K W (Cm x q i) w) k 0 0 (by omega) (by omega) (fun w ⟨a, b, _, _, ⟨j, h, _⟩, _⟩ => absurd h (Nat.not_lt_zero j)) ?_ ?_
  · intro fu i a hi hp
    obtain ⟨m, c1, c2, c3⟩ := Mcame hd h6 hn hB hq h1 h2 (show i + 1 < 100 by omega)
    obtain ⟨h, d1, d2⟩ := Mhappened hM hR (show m < 2147483648 by omega)
    have d3 : Bits h (Hp n s K W (Cm x q (i + 1))) := d2.cg fun w => Hp.cg (fun j _ => c3 j) w
    have q1 : ¬ k ≤ i := by omega
    have hl := d3.lt6 (Hp.lt hR)
    by_cases h0 : h = 0
    · left
      refine ⟨0, ?_, fun w hw => ?_⟩
      · subst h0
        simp (maxSteps := 2000000) (disch := omega) only [f_M_claims_L61, gupE, gltE, gllE, litE, litLE, bindE, ↓reduceIte, gsi_at, gsi_l2, gsl_at, gsl_i1, upd_at, updL_at, Nat.reduceEqDiff, gix_nI, nI_clamp, bI_0, bI_gzb, Bool.true_eq_false, Bool.false_eq_true, nI_leI, q1, nI_add, c1, d1]
      · have := (d3 w).mpr hw
        rw [h0] at this
        simp at this
    · right
      left
      have hz : ¬ nI h = nI 0 := by rw [nI_eq (by omega) (by omega)]; exact h0
      obtain ⟨w, hw⟩ := nz_iff.mp h0
      refine ⟨i, hi, ?_, ⟨w, (d3 w).mp hw⟩, hp⟩
      simp (maxSteps := 2000000) (disch := omega) only [f_M_claims_L61, gupE, gltE, gllE, litE, litLE, bindE, ↓reduceIte, gsi_at, gsi_l2, gsl_at, gsl_i1, upd_at, updL_at, Nat.reduceEqDiff, gix_nI, nI_clamp, bI_0, bI_gzb, Bool.true_eq_false, Bool.false_eq_true, nI_leI, q1, nI_add, c1, d1, hz]
  · intro fu a hp
    right
    refine ⟨?_, hp⟩
    have q1 : nI k ≤ nI k := Int32.le_refl _
    simp (maxSteps := 2000000) (disch := omega) only [f_M_claims_L61, gupE, gltE, gllE, litE, litLE, bindE, ↓reduceIte, gsi_at, gsi_l2, gsl_at, gsl_i1, upd_at, updL_at, Nat.reduceEqDiff, gix_nI, nI_clamp, bI_0, bI_gzb, Bool.true_eq_false, Bool.false_eq_true, q1]
theorem first_eq {n q W k : Nat} {x : Nat → Int64} {s K : Nat → Nat} {j j' : Nat} (a1 : ∃ w, Hp n s K W (Cm x q (j + 1)) w) (a2 : ∀ w, ¬ Hp n s K W (Cm x q j) w) (b1 : ∃ w, Hp n s K W (Cm x q (j' + 1)) w) (b2 : ∀ w, ¬ Hp n s K W (Cm x q j') w) : j = j' := by
  rcases Nat.lt_or_ge j j' with h | h
  · obtain ⟨w, hw⟩ := a1
    exact absurd (Hp.mono (fun c hc => Cm.mono (by omega) c hc) hw) (b2 w)
  · rcases Nat.lt_or_ge j' j with h2 | h2
    · obtain ⟨w, hw⟩ := b1
      exact absurd (Hp.mono (fun c hc => Cm.mono (by omega) c hc) hw) (a2 w)
    · omega
theorem ne_m1_1 : ¬ nI 1 = -nI 1 := by decide
theorem ne_m11 : ¬ -nI 11 = -nI 1 := by decide
theorem ne_m12 : ¬ -nI 12 = -nI 1 := by decide
theorem le_m11 : ¬ nI 0 ≤ -nI 11 := by decide
theorem le_m12 : ¬ nI 0 ≤ -nI 12 := by decide
theorem ag_claims (v1 v2 v3 : Int32) : Agr (f_T_claims v1 v2 v3) (f_M_claims v1 v2 v3) := by
  intro σ hR0
  have hR := hR0
  obtain ⟨n, K, E, P, B, F, W, D, m, hP, hT, hL, hC, hLe, hPi, hW, hS, h0⟩ := hR
  obtain ⟨V, hV⟩ := hL.V
  have h : Ctx σ n K E P B F W D m V := ⟨hP, hV, hS⟩
  have hn := hP.1.1
  have hr := h.rg
  unfold f_T_claims f_M_claims
  have n11 : ¬ nI 1 = -nI 1 := by decide
  cases hv : inb v1 6 with
  | false =>
    refine ⟨-nI 1, σ, σ, ?_, ?_, hR0⟩
    · rw [show f_T_within v1 6 = some (bI false) by rw [← hv]; exact within_eq v1 (by decide), bindE, if_pos (show bI false = 0 from rfl)]
      rfl
    · rw [bytesIs_no hv, bindE, if_pos (show -nI 1 = -1 from rfl)]
      rfl
  | true =>
    obtain ⟨d, hd, rfl⟩ := inb_of hv (by omega)
    have hw1 : f_T_within (nI d) 6 = some (bI true) := by rw [← hv]; exact within_eq (nI d) (by decide)
    have hbn : ∃ r, f_M_bytesIs (nI d) σ = some r ∧ ¬ r = -1 := by
      rcases bytes_c hS hW.1.1 hd with ⟨r, hr | hr, -, -, e⟩ | ⟨z, x, -, -, e⟩
      · exact ⟨r, e, by rw [hr]; decide⟩
      · exact ⟨r, e, by rw [hr]; decide⟩
      · exact ⟨_, e, by decide⟩
    obtain ⟨r0, hr0, hr1⟩ := hbn
    by_cases hk : nI 0 ≤ v2 ∧ v2 ≤ nI 40
    · have hkk : ∃ k, k ≤ 40 ∧ v2 = nI k := by
        rw [i_le, i_le, nI_toInt (by decide), nI_toInt (by decide)] at hk
        obtain ⟨k, hk2, rfl⟩ := nonneg_nI (v := v2) (by omega)
        rw [nI_toInt (by omega)] at hk
        exact ⟨k, by omega, rfl⟩
      obtain ⟨k, hk40, rfl⟩ := hkk
      have k0 : ¬ nI k < 0 := nI_pos (by omega)
      have k40 : ¬ 40 < nI k := by
        intro q
        have := (nI_ltI (a := 40) (b := k) (by omega) (by omega)).mp q
        omega
      have hMk : f_M_within (nI k).toInt64 0 40 = some (bI true) := by
        have := Mwithin0 (nI k) (b := 40) (by decide)
        rw [inb_nI (by omega), decide_eq_true (show k < 40 + 1 by omega)] at this
        exact this
      cases hv3 : inb v3 3 with
      | false =>
        refine ⟨-nI 1, σ, σ, ?_, ?_, hR0⟩
        · rw [hw1, bindE, if_neg (by decide), if_neg k0, if_neg k40, show f_T_within v3 3 = some (bI false) by rw [← hv3]; exact within_eq v3 (by decide), bindE, if_pos (by decide)]
          rfl
        · rw [hr0, bindE, if_neg hr1, hMk, bindE, if_neg (by decide), show f_M_within v3.toInt64 0 2 = some (bI false) by rw [← hv3, litLE, litLE, Mwithin0 _ (by decide)], bindE, if_pos (by decide)]
          rfl
      | true =>
        obtain ⟨what, hwh, rfl⟩ := inb_of hv3 (by omega)
        have hw3 : f_T_within (nI what) 3 = some (bI true) := by rw [← hv3]; exact within_eq (nI what) (by decide)
        have hm3 : f_M_within (nI what).toInt64 0 2 = some (bI true) := by rw [← hv3, litLE, litLE, Mwithin0 _ (by decide)]
        rcases bytes_c hS hW.1.1 hd with ⟨r, hr, e1, e2, e3⟩ | ⟨z, x, hB, e1, e3⟩
        · refine ⟨r, σ, σ, ?_, ?_, hR0⟩
          · rw [hw1, bindE, if_neg (by decide), if_neg k0, if_neg k40, hw3, bindE, if_neg (by decide), if_pos (gix_nI hd (by decide)), gshc_nI hd, e1, bindE, if_pos (by decide), e2, bindE]
          · have le : ¬ 0 ≤ r := by rcases hr with rfl | rfl <;> decide
            have ne : ¬ r = -1 := by rcases hr with rfl | rfl <;> decide
            rw [e3, bindE, if_neg ne, hMk, bindE, if_neg (by decide), hm3, bindE, if_neg (by decide), bindE, if_neg le, bindE]
        · obtain ⟨q, hq, p1, p2⟩ := prefix_ex (bval x z n) 40
          obtain ⟨τ, a1, a2, a3⟩ := Gnow (Or.inl rfl) h
          have hBt := hB.fr hd a3
          have hCt := h.fr a3
          obtain ⟨υ, c1, c2, c3⟩ := Snow hCt
          have hBu := hBt.fr hd c3
          obtain ⟨m1, b1, f1, l1, l2, l3, l4⟩ := Tclaims_L (v := what) hd (hCt.1.1.2.1) a2 hr hBt hq p1 p2 hk40
          have hm10 : m1 < 1024 := by
            refine l2.lt (k := 10) ?_
            rintro c ⟨j, -, hj, rfl⟩
            have := (bval.v hB (p1 j hj)).2.1
            omega
          obtain ⟨m2, g1, g2, g3⟩ := Mcame hd c2.1.1 hn hBu hq p1 p2 (show k < 100 by omega)
          obtain ⟨b2, o1, o2⟩ := Mhappened c2 hr (show m2 < 2147483648 by omega)
          have em : m2 = m1 := g3.eq l2
          have eb : b2 = b1 := (o2.cg fun w => Hp.cg (fun j _ => g3 j) w).eq l3
          have T0 : ∀ X, f_T_claims_j162 (nI what) (nI m1) (nI b1) f1 τ = some X → (f_T_within (nI d) 6).bind (fun q1 => if q1 = 0 then some ((-1), σ) else if nI k < 0 then some ((-1), σ) else if (40) < nI k then some ((-1), σ) else (f_T_within (nI what) (3)).bind fun q5 => if q5 = 0 then some ((-1), σ) else if gix (nI d) 6 then (f_Sh_isOfBytes (gshc (nI d)) σ).bind fun q8 => if q8 = 0 then (f_Sh_refusal (gshc (nI d)) σ).bind fun q10 => some (q10, σ) else (f_Cr_gatherNow 11 σ).bind fun s11 => f_T_claims_L75 gfu (nI k) (nI what) (gshc (nI d)) (0) (0) (-2) (0) s11 else none) = some X := by
            intro X hX
            rw [hw1, bindE, if_neg (by decide), if_neg k0, if_neg k40, hw3, bindE, if_neg (by decide), if_pos (gix_nI hd (by decide)), gshc_nI hd, e1, bindE, if_neg (by decide), a1, bindE, ← hX, ← l1]
            rfl
          have hbb : f_M_bytesIs (nI d) τ = some (nI 1) := by
            rcases bytes_c hCt.2.2 hW.1.1 hd with ⟨r, hr, q1, q2, q3⟩ | ⟨z', x', -, -, q3⟩
            · exfalso
              have := hB.2
              have n1 : ∀ k, inT [0] (47 + 2 * d) k = false := fun k => inT_no rfl (comp_8 (cShv_c (by omega) k))
              unfold f_Sh_isOfBytes at q1 e1
              rw [a3.1 _ _ (n1 1), a3.1 _ _ (n1 3)] at q1
              rw [q1] at e1
              exact absurd e1 (by decide)
            · exact q3
          have hMM : ∀ {o : Option (Int32 × gS)} (Y : gS → Option (Int32 × gS)), Y υ = o → (f_M_bytesIs (nI d) τ).bind (fun q1 => if q1 = (-1) then some ((-1), τ) else (f_M_within ((nI k).toInt64) (0 : Int64) (40 : Int64)).bind fun q3 => if q3 = 0 then some ((-1), τ) else (f_M_within ((nI what).toInt64) (0 : Int64) (2 : Int64)).bind fun q5 => if q5 = 0 then some ((-1), τ) else (f_M_bytesIs (nI d) τ).bind fun q7 => if 0 ≤ q7 then (f_M_allSayNow τ).bind Y else (f_M_bytesIs (nI d) τ).bind fun q20 => some (q20, τ)) = o := by
            intro o Y hY
            rw [hbb, bindE, if_neg (by decide), hMk, bindE, if_neg (by decide), hm3, bindE, if_neg (by decide), bindE, if_pos (by decide), c1, bindE, hY]
          have hw012 : what = 0 ∨ what = 1 ∨ what = 2 := by omega
          rcases hw012 with rfl | rfl | rfl
          · refine ⟨nI b1, τ, υ, T0 _ ?_, hMM _ ?_, (hR0.frs a3).frs c3⟩
            · unfold f_T_claims_j162
              rw [if_pos (by decide)]
            · rw [if_neg (by decide), if_pos (by decide), g1, bindE, o1, bindE, eb]
          · refine ⟨f1, τ, υ, T0 _ ?_, hMM _ ?_, (hR0.frs a3).frs c3⟩
            · unfold f_T_claims_j162
              rw [if_neg (by decide), if_pos (by decide)]
            · rw [if_pos (by decide)]
              have hLL := Mclaims_L hd c2 hr hBu hq p1 p2 hk40
              rcases hLL with ⟨j, j1, j2, j3, j4⟩ | ⟨j2, j4⟩
              · rw [litE, j2]
                rcases l4 with ⟨-, l4⟩ | ⟨j', i1, rfl, i3, i4⟩
                · obtain ⟨w, hw⟩ := j3
                  exact absurd (Hp.mono (fun c hc => Cm.mono (by omega) c hc) hw) (l4 w)
                · rw [first_eq (k := k) j3 j4 i3 i4]
              · rw [litE, j2]
                rcases l4 with ⟨rfl, -⟩ | ⟨j', i1, rfl, ⟨w, hw⟩, i4⟩
                · rfl
                · exact absurd (Hp.mono (fun c hc => Cm.mono (by omega) c hc) hw) (j4 w)
          · refine ⟨nI (cnt m1 10), τ, υ, T0 _ ?_, hMM _ ?_, (hR0.frs a3).frs c3⟩
            · unfold f_T_claims_j162
              rw [if_neg (by decide), if_neg (by decide), bc (by omega), bindE, cnt10 hm10]
            · rw [if_neg (by decide), if_neg (by decide), g1, bindE, MbitsOf (by omega), bindE, em]
    · have hTf : (if v2 < 0 then some ((-1 : Int32), σ) else if (40) < v2 then some ((-1), σ) else (f_T_within v3 (3)).bind fun q5 => if q5 = 0 then some ((-1), σ) else if gix (nI d) 6 then (f_Sh_isOfBytes (gshc (nI d)) σ).bind fun q8 => if q8 = 0 then (f_Sh_refusal (gshc (nI d)) σ).bind fun q10 => some (q10, σ) else (f_Cr_gatherNow 11 σ).bind fun s11 => f_T_claims_L75 gfu v2 v3 (gshc (nI d)) (0) (0) (-2) (0) s11 else none) = some (-nI 1, σ) := by
        by_cases q : v2 < 0
        · rw [if_pos q]
          rfl
        · rw [if_neg q, if_pos]
          · rfl
          · rw [i_le, i_le, nI_toInt (by decide), nI_toInt (by decide)] at hk
            have q' : ¬ v2 < nI 0 := q
            rw [i_lt, nI_toInt (by decide)] at q'
            show nI 40 < v2
            rw [i_lt, nI_toInt (by decide)]
            omega
      refine ⟨-nI 1, σ, σ, ?_, ?_, hR0⟩
      · rw [hw1, bindE, if_neg (by decide)]
        exact hTf
      · have : f_M_within v2.toInt64 0 40 = some (bI false) := by
          have := Mwithin0 v2 (b := 40) (by decide)
          rw [i_le, i_le, nI_toInt (by decide), nI_toInt (by decide)] at hk
          have e : inb v2 (40 + 1) = false := by
            unfold inb
            by_cases q : 0 ≤ v2.toInt
            · rw [decide_eq_true q, decide_eq_false (by omega)]
              rfl
            · rw [decide_eq_false q]
              rfl
          rw [e] at this
          exact this
        rw [hr0, bindE, if_neg hr1, this, bindE, if_pos (by decide)]
        rfl
