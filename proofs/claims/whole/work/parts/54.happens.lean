/-! pure: happens, claim -/
theorem bytesIs_fr {σ τ : gS} (hF : Frs σ τ) (v : Int32) : f_M_bytesIs v τ = f_M_bytesIs v σ := by
  have n76 : ∀ k, inT [0] 76 k = false := fun k => inT_no rfl (comp_8 rfl)
  unfold f_M_bytesIs
  simp only [hF.1 76 _ (n76 _)]
theorem Thappens_L {τ : gS} {d z n q W w : Nat} {x : Nat → Int64} {s K : Nat → Nat} (hd : d < 6) (hw : w < 6) (h16 : τ.1 1 6 = nI n) (hM : CS 11 τ n s K W) (hR : Rg n s K W) (hB : BRow τ d z x) (hq : q ≤ 40) (h1 : ∀ i, i < q → bval x z n i) (h2 : q = 40 ∨ ¬ bval x z n q) :
    (∃ j, j < 40 ∧ f_T_happens_L56 gfu (nI w) (47 + 2 * d) (nI 0) (nI 0) τ = some (nI (j + 1), τ) ∧ Hp n s K W (Cm x q (j + 1)) w ∧ ¬ Hp n s K W (Cm x q j) w) ∨ (f_T_happens_L56 gfu (nI w) (47 + 2 * d) (nI 0) (nI 0) τ = some (-nI 2, τ) ∧ ¬ Hp n s K W (Cm x q 40) w) := by
  have hn := hR.1
  refine loopG (fun fu i (a : Nat) => f_T_happens_L56 fu (nI w) (47 + 2 * d) (nI a) (nI i) τ) (fun o => (∃ j, j < 40 ∧ o = some (nI (j + 1), τ) ∧ Hp n s K W (Cm x q (j + 1)) w ∧ ¬ Hp n s K W (Cm x q j) w) ∨ (o = some (-nI 2, τ) ∧ ¬ Hp n s K W (Cm x q 40) w)) (fun i a => Bits a (Cm x q i) ∧ ¬ Hp n s K W (Cm x q i) w) q 0 0 (by omega) (by omega) ⟨Bits.zero.cg fun c => ⟨False.elim, fun ⟨j, h, _⟩ => absurd h (Nat.not_lt_zero j)⟩, fun ⟨a, b, _, _, ⟨j, h, _⟩, _⟩ => absurd h (Nat.not_lt_zero j)⟩ ?_ ?_
  · rintro fu i m hi ⟨p1, p2⟩
    obtain ⟨b, hb0⟩ := Bits.ex (Hp n s K W (Cm x q i)) 6
    have hb : Bits b (Hp n s K W (Cm x q i)) := hb0.cg fun v => ⟨fun y => y.2, fun y => ⟨Hp.lt hR v y, y⟩⟩
    obtain ⟨h, f1, f2, f3, f4, f5⟩ := Cmet hM hR hB h1 hi p1 hb
    obtain ⟨e1, e2, e3, e4⟩ := bval.v hB (h1 i hi)
    have hin := bval_inb hB (show n < 1000 by omega) (h1 i hi)
    rw [e1] at hin
    have q1 : ¬ 40 ≤ i := by omega
    have hsm := small_eq hB (show i < 1000 by omega)
    rw [e1] at hsm
    cases t : h.testBit w with
    | true =>
      right
      left
      refine ⟨i, by omega, ?_, ?_, p2⟩
      · simp (maxSteps := 2000000) (disch := omega) only [f_T_happens_L56, gupE, gltE, gllE, litE, litLE, bindE, ↓reduceIte, gsi_at, gsi_l2, gsl_at, gsl_i1, upd_at, updL_at, Nat.reduceEqDiff, gix_nI, nI_clamp, bI_0, bI_gzb, Bool.true_eq_false, Bool.false_eq_true, nI_leI, q1, hsm, h16, within_eq, hin, f1, has_eq, t, nI_add]
      · rcases (f4 w).mp t with g | g
        · exact g.2
        · exact absurd g.1 p2
    | false =>
      left
      refine ⟨m ||| 2 ^ bv x i, ?_, f2, fun hw => ?_⟩
      · simp (maxSteps := 2000000) (disch := omega) only [f_T_happens_L56, gupE, gltE, gllE, litE, litLE, bindE, ↓reduceIte, gsi_at, gsi_l2, gsl_at, gsl_i1, upd_at, updL_at, Nat.reduceEqDiff, gix_nI, nI_clamp, bI_0, bI_gzb, Bool.true_eq_false, Bool.false_eq_true, nI_leI, q1, hsm, h16, within_eq, hin, f1, has_eq, t, nI_add, sh1, nI_or]
      · have := (f4 w).mpr (Or.inl ⟨p2, hw⟩)
        rw [t] at this
        cases this
  · rintro fu m ⟨p1, p2⟩
    right
    refine ⟨?_, fun hw => p2 ((Hp.cg (fun j _ => Cm.ge hq j) w).mp hw)⟩
    by_cases q1 : 40 ≤ q
    · simp (maxSteps := 2000000) (disch := omega) only [f_T_happens_L56, gupE, gltE, gllE, litE, litLE, bindE, ↓reduceIte, gsi_at, gsi_l2, gsl_at, gsl_i1, upd_at, updL_at, Nat.reduceEqDiff, gix_nI, nI_clamp, bI_0, bI_gzb, Bool.true_eq_false, Bool.false_eq_true, nI_leI, q1]
    · have hno : ¬ bval x z n q := h2.elim (fun e => absurd e (by omega)) id
      have hin := bval_not hB (show n < 1000 by omega) hno
      have hsm := small_eq hB (show q < 1000 by omega)
      simp (maxSteps := 2000000) (disch := omega) only [f_T_happens_L56, gupE, gltE, gllE, litE, litLE, bindE, ↓reduceIte, gsi_at, gsi_l2, gsl_at, gsl_i1, upd_at, updL_at, Nat.reduceEqDiff, gix_nI, nI_clamp, bI_0, bI_gzb, Bool.true_eq_false, Bool.false_eq_true, nI_leI, q1, hsm, h16, within_eq, hin]
theorem Mhappens_L {τ : gS} {d z n q W w : Nat} {x : Nat → Int64} {s K : Nat → Nat} (hd : d < 6) (hw : w < 6) (hM : MS τ n s K W) (hR : Rg n s K W) (hB : BRow τ d z x) (hq : q ≤ 40) (h1 : ∀ i, i < q → bval x z n i) (h2 : q = 40 ∨ ¬ bval x z n q) :
    (∃ j, j < 41 ∧ f_M_happens_L39 gfu (nI d) (nI w) (nI 0) τ = some (nI j, τ) ∧ Hp n s K W (Cm x q j) w ∧ ∀ i, i < j → ¬ Hp n s K W (Cm x q i) w) ∨ (f_M_happens_L39 gfu (nI d) (nI w) (nI 0) τ = some (-nI 2, τ) ∧ ¬ Hp n s K W (Cm x q 40) w) := by
  have hn := hR.1
  have h6 := hM.1.1
  refine loopG (fun fu i (_ : Nat) => f_M_happens_L39 fu (nI d) (nI w) (nI i) τ) (fun o => (∃ j, j < 41 ∧ o = some (nI j, τ) ∧ Hp n s K W (Cm x q j) w ∧ ∀ i, i < j → ¬ Hp n s K W (Cm x q i) w) ∨ (o = some (-nI 2, τ) ∧ ¬ Hp n s K W (Cm x q 40) w)) (fun i _ => ∀ j, j < i → ¬ Hp n s K W (Cm x q j) w) 41 0 0 (by omega) (by omega) (fun j h => absurd h (Nat.not_lt_zero j)) ?_ ?_
  · intro fu i a hi hp
    obtain ⟨m, c1, c2, c3⟩ := Mcame hd h6 hn hB hq h1 h2 (show i < 100 by omega)
    obtain ⟨h, d1, d2⟩ := Mhappened hM hR (show m < 2147483648 by omega)
    have d3 : Bits h (Hp n s K W (Cm x q i)) := d2.cg fun w => Hp.cg (fun j _ => c3 j) w
    have q1 : ¬ 40 < i := by omega
    have hl := d3.lt6 (Hp.lt hR)
    cases t : h.testBit w with
    | false =>
      left
      refine ⟨0, ?_, fun j hj hh => ?_⟩
      · simp (maxSteps := 2000000) (disch := omega) only [f_M_happens_L39, gupE, gltE, gllE, litE, litLE, bindE, ↓reduceIte, gsi_at, gsi_l2, gsl_at, gsl_i1, upd_at, updL_at, Nat.reduceEqDiff, gix_nI, nI_clamp, bI_0, bI_gzb, Bool.true_eq_false, Bool.false_eq_true, nI_ltI, q1, nI_add, c1, d1, isIn_eq, t]
      · by_cases e : j = i
        · subst e
          rw [(d3 w).mpr hh] at t
          cases t
        · exact hp j (by omega) hh
    | true =>
      right
      left
      refine ⟨i, hi, ?_, (d3 w).mp t, hp⟩
      simp (maxSteps := 2000000) (disch := omega) only [f_M_happens_L39, gupE, gltE, gllE, litE, litLE, bindE, ↓reduceIte, gsi_at, gsi_l2, gsl_at, gsl_i1, upd_at, updL_at, Nat.reduceEqDiff, gix_nI, nI_clamp, bI_0, bI_gzb, Bool.true_eq_false, Bool.false_eq_true, nI_ltI, q1, nI_add, c1, d1, isIn_eq, t]
  · intro fu a hp
    right
    refine ⟨?_, hp 40 (by omega)⟩
    have q1 : 40 < 41 := by omega
    simp (maxSteps := 2000000) (disch := omega) only [f_M_happens_L39, gupE, gltE, gllE, litE, litLE, bindE, ↓reduceIte, gsi_at, gsi_l2, gsl_at, gsl_i1, upd_at, updL_at, Nat.reduceEqDiff, gix_nI, nI_clamp, bI_0, bI_gzb, Bool.true_eq_false, Bool.false_eq_true, nI_ltI, q1]
theorem ag_happens (v1 v2 : Int32) : Agr (f_T_happens v1 v2) (f_M_happens v1 v2) := by
  intro σ hR0
  have hR := hR0
  obtain ⟨n, K, E, P, B, F, W, D, m, hP, hT, hL, hC, hLe, hPi, hW, hS, h0⟩ := hR
  obtain ⟨V, hV⟩ := hL.V
  have h : Ctx σ n K E P B F W D m V := ⟨hP, hV, hS⟩
  have hn := hP.1.1
  have hr := h.rg
  unfold f_T_happens f_M_happens
  cases hv : inb v1 6 with
  | false =>
    refine ⟨-nI 1, σ, σ, ?_, ?_, hR0⟩
    · rw [show f_T_within v1 6 = some (bI false) by rw [← hv]; exact within_eq v1 (by decide), bindE, if_pos (show bI false = 0 from rfl)]
      rfl
    · rw [bytesIs_no hv, bindE, if_pos (show -nI 1 = -1 from rfl)]
      rfl
  | true =>
    obtain ⟨d, hd, rfl⟩ := inb_of hv (by omega)
    have hw1 : f_T_within (nI d) 6 = some (bI true) := by rw [← hv]; exact within_eq (nI d) (by decide)
    have hbn : ∃ r, f_M_bytesIs (nI d) σ = some r ∧ ¬ r = -1 := by
      rcases bytes_c hS hW.1.1 hd with ⟨r, hr | hr, -, -, e⟩ | ⟨z, x, -, -, e⟩
      · exact ⟨r, e, by rw [hr]; decide⟩
      · exact ⟨r, e, by rw [hr]; decide⟩
      · exact ⟨_, e, by decide⟩
    obtain ⟨r0, hr0, hr1⟩ := hbn
    cases hv2 : inb v2 6 with
    | false =>
      refine ⟨-nI 1, σ, σ, ?_, ?_, hR0⟩
      · rw [hw1, bindE, if_neg (by decide), show f_T_within v2 6 = some (bI false) by rw [← hv2]; exact within_eq v2 (by decide), bindE, if_pos (by decide)]
        rfl
      · rw [hr0, bindE, if_neg hr1, isWeather_eq, hv2, bindE, if_pos (by decide)]
        rfl
    | true =>
      obtain ⟨w, hw, rfl⟩ := inb_of hv2 (by omega)
      have hw2 : f_T_within (nI w) 6 = some (bI true) := by rw [← hv2]; exact within_eq (nI w) (by decide)
      rcases bytes_c hS hW.1.1 hd with ⟨r, hr, e1, e2, e3⟩ | ⟨z, x, hB, e1, e3⟩
      · refine ⟨r, σ, σ, ?_, ?_, hR0⟩
        · rw [hw1, bindE, if_neg (by decide), hw2, bindE, if_neg (by decide), if_pos (gix_nI hd (by decide)), gshc_nI hd, e1, bindE, if_pos (by decide), e2, bindE]
        · have le : ¬ 0 ≤ r := by rcases hr with rfl | rfl <;> decide
          have ne : ¬ r = -1 := by rcases hr with rfl | rfl <;> decide
          rw [e3, bindE, if_neg ne, isWeather_eq, hv2, bindE, if_neg (by decide), bindE, if_neg le, bindE]
      · obtain ⟨q, hq, p1, p2⟩ := prefix_ex (bval x z n) 40
        obtain ⟨τ, a1, a2, a3⟩ := Gnow (Or.inl rfl) h
        have hBt := hB.fr hd a3
        have hCt := h.fr a3
        obtain ⟨υ, c1, c2, c3⟩ := Snow hCt
        have hBu := hBt.fr hd c3
        have lT := Thappens_L hd hw hCt.1.1.2.1 a2 hr hBt hq p1 p2
        have lM := Mhappens_L hd hw c2 hr hBu hq p1 p2
        have hfin : ∃ r, f_T_happens_L56 gfu (nI w) (47 + 2 * d) (nI 0) (nI 0) τ = some (r, τ) ∧ f_M_happens_L39 gfu (nI d) (nI w) (nI 0) υ = some (r, υ) := by
          rcases lT with ⟨j, j1, j2, j3, j4⟩ | ⟨j2, j4⟩
          · rcases lM with ⟨i, i1, i2, i3, i4⟩ | ⟨i2, i4⟩
            · have : i = j + 1 := by
                rcases Nat.lt_or_ge i (j + 1) with l | l
                · exact absurd (Hp.mono (fun c hc => Cm.mono (by omega) c hc) i3) j4
                · rcases Nat.lt_or_ge (j + 1) i with l2 | l2
                  · exact absurd j3 (i4 (j + 1) l2)
                  · omega
              exact ⟨_, j2, by rw [i2, this]⟩
            · exact absurd (Hp.mono (fun c hc => Cm.mono (by omega) c hc) j3) i4
          · rcases lM with ⟨i, i1, i2, i3, i4⟩ | ⟨i2, i4⟩
            · exact absurd (Hp.mono (fun c hc => Cm.mono (by omega) c hc) i3) j4
            · exact ⟨_, j2, i2⟩
        obtain ⟨r, k1, k2⟩ := hfin
        refine ⟨r, τ, υ, ?_, ?_, (hR0.frs a3).frs c3⟩
        · rw [hw1, bindE, if_neg (by decide), hw2, bindE, if_neg (by decide), if_pos (gix_nI hd (by decide)), gshc_nI hd, e1, bindE, if_neg (by decide), a1, bindE, ← k1]
          rfl
        · rw [bytesIs_fr a3, e3, bindE, if_neg (by decide), isWeather_eq, hv2, bindE, if_neg (by decide), bindE, if_pos (by decide), c1, bindE, ← k2]
          rfl
theorem nI_not {a b : Nat} (ha : a < 64) : nI a &&& (nI b ^^^ -nI 1) = nI (a &&& (b ^^^ 4294967295)) := by
  rw [nI_m1, nI_xor, nI_and]
theorem tb_not {a b w : Nat} (ha : a < 64) : (a &&& (b ^^^ 4294967295)).testBit w = true ↔ a.testBit w = true ∧ ¬ b.testBit w = true := by
  rw [Nat.testBit_and, Nat.testBit_xor]
  by_cases hw : w < 32
  · have : (4294967295 : Nat).testBit w = true := by
      rw [show 4294967295 = 2 ^ 32 - 1 from rfl]
      exact tb_full.mpr hw
    rw [this]
    cases a.testBit w <;> cases b.testBit w <;> decide
  · have : a.testBit w = false := Nat.testBit_lt_two_pow (Nat.lt_of_lt_of_le ha (Nat.pow_le_pow_right (by decide) (show 6 ≤ w by omega) : 2 ^ 6 ≤ 2 ^ w))
    rw [this]
    simp
/-- what is fresh by one who comes -/
def Fh (n : Nat) (s K : Nat → Nat) (W c h t w : Nat) : Prop := Mt n s K W c h w ∧ ¬ t.testBit w = true
/-- the new cells of a claim -/
theorem Mclaim_L {σ : gS} {n W c h t : Nat} {s K : Nat → Nat} (hM : MS σ n s K W) (hR : Rg n s K W) (hc : c < n) (h21 : σ.1 59 21 = nI h) (h22 : σ.1 59 22 = nI t) (hh : h < 1024) (ht : t < 64) :
    ∃ f, f < 64 ∧ Bits f (Fh n s K W c h t) ∧ f_M_claim_L33 gfu (nI c) (nI 0) (nI 0) σ = some (nI f, gpi (gpi (gpi (gpi σ 59 21 (nI (h ||| 2 ^ c))) 59 22 (nI (t ||| f))) 71 0 (σ.1 71 0 + nI 1)) 71 1 (σ.1 71 1 + nI (cnt f 10))) := by
  have hn := hR.1
  have e6 := hM.1.1
  refine loopG (fun fu i (a : Nat) => f_M_claim_L33 fu (nI c) (nI a) (nI i) σ) (fun o => ∃ f, f < 64 ∧ Bits f (Fh n s K W c h t) ∧ o = some (nI f, gpi (gpi (gpi (gpi σ 59 21 (nI (h ||| 2 ^ c))) 59 22 (nI (t ||| f))) 71 0 (σ.1 71 0 + nI 1)) 71 1 (σ.1 71 1 + nI (cnt f 10)))) (fun i a => Bits a (Mt i s K W c h)) n 0 0 (by omega) (by omega) (Bits.zero.cg fun w => ⟨False.elim, fun ⟨o, q, _⟩ => absurd q (Nat.not_lt_zero o)⟩) ?_ ?_
  · intro fu i a hi hp
    left
    have hs := hR.sk hi
    have hsc := hR.sk hc
    have h1 : ¬ n ≤ i := by omega
    have hag := Magree hM hR hc hi
    have hon := MagreedOn hM hR hc hi
    have hno : ¬ (h.testBit i = true ∧ agr s K W c i) → Bits a (Mt (i + 1) s K W c h) := fun q => hp.cg fun w => ⟨fun ⟨o, q1, q2⟩ => ⟨o, by omega, q2⟩, fun ⟨o, q1, q2, q3, q4⟩ => ⟨o, by
      by_cases e : o = i
      · subst e
        exact absurd ⟨q2, q3⟩ q
      · omega, q2, q3, q4⟩⟩
    cases t1 : h.testBit i with
    | false =>
      refine ⟨a, ?_, hno (by simp [t1])⟩
      simp (disch := omega) only [f_M_claim_L33, f_M_claim_j73, f_M_claim_j74, gupE, gltE, gllE, litE, litLE, bindE, ↓reduceIte, gsi_at, gsi_l2, gsl_at, gsl_i1, upd_at, updL_at, Nat.reduceEqDiff, gix_nI, nI_clamp, bI_0, bI_gzb, Bool.true_eq_false, Bool.false_eq_true, e6, nI_leI, h1, h21, isIn_eq, t1, nI_or, Nat.or_zero, nI_add]
    | true =>
      by_cases t2 : agr s K W c i
      · refine ⟨a ||| 2 ^ (min (s c) (s i)), ?_, hp.or.cg fun w => ⟨?_, ?_⟩⟩
        · simp (disch := omega) only [f_M_claim_L33, f_M_claim_j73, f_M_claim_j74, gupE, gltE, gllE, litE, litLE, bindE, ↓reduceIte, gsi_at, gsi_l2, gsl_at, gsl_i1, upd_at, updL_at, Nat.reduceEqDiff, gix_nI, nI_clamp, bI_0, bI_gzb, Bool.true_eq_false, Bool.false_eq_true, e6, nI_leI, h1, h21, isIn_eq, t1, hag, decide_eq_true t2, hon, sh1, nI_or, nI_add]
        · rintro (⟨o, q1, q2⟩ | rfl)
          · exact ⟨o, by omega, q2⟩
          · exact ⟨i, by omega, t1, t2, rfl⟩
        · rintro ⟨o, q1, q2, q3, q4⟩
          by_cases e : o = i
          · subst e
            exact Or.inr q4.symm
          · exact Or.inl ⟨o, by omega, q2, q3, q4⟩
      · refine ⟨a, ?_, hno fun q => t2 q.2⟩
        simp (disch := omega) only [f_M_claim_L33, f_M_claim_j73, f_M_claim_j74, gupE, gltE, gllE, litE, litLE, bindE, ↓reduceIte, gsi_at, gsi_l2, gsl_at, gsl_i1, upd_at, updL_at, Nat.reduceEqDiff, gix_nI, nI_clamp, bI_0, bI_gzb, Bool.true_eq_false, Bool.false_eq_true, e6, nI_leI, h1, h21, isIn_eq, t1, hag, decide_eq_false t2, nI_or, Nat.or_zero, nI_add]
  · intro fu a hp
    have ha : a < 64 := hp.lt (k := 6) (Mt.lt hR hc)
    obtain ⟨f, hf⟩ : ∃ f, f = a &&& (t ^^^ 4294967295) := ⟨_, rfl⟩
    have hb : Bits f (Fh n s K W c h t) := fun w => by
      rw [hf, tb_not ha, hp w]
      rfl
    have hf64 : f < 64 := hb.lt (k := 6) fun w hw => Mt.lt hR hc w hw.1
    refine ⟨f, hf64, hb, ?_⟩
    have h1 : nI n ≤ nI n := Int32.le_refl _
    have hx := nI_not (b := t) ha
    rw [← hf] at hx
    have n1 : ¬ 59 = 71 := by decide
    simp (disch := omega) only [f_M_claim_L33, gupE, gltE, gllE, litE, litLE, bindE, ↓reduceIte, gsi_at, gsi_l2, gsl_at, gsl_i1, upd_at, updL_at, Nat.reduceEqDiff, gix_nI, nI_clamp, bI_0, bI_gzb, Bool.true_eq_false, Bool.false_eq_true, e6, h1, h21, h22, hx, sh1, nI_or, MbitsOf]
theorem ag_claim (v : Int32) : Agr (f_T_claim v) (f_M_claim v) := by
  intro σ hR0
  have hR := hR0
  obtain ⟨n, K, E, P, B, F, W, D, m, hP, hT, hL, hC, hLe, hPi, hW, hS, h0⟩ := hR
  obtain ⟨V, hV⟩ := hL.V
  have hX : Ctx σ n K E P B F W D m V := ⟨hP, hV, hS⟩
  have hn := hP.1.1
  have hr := hX.rg
  obtain ⟨l1, ⟨h, l2, l3, l4⟩, ⟨t, l5, l6, l7⟩⟩ := id hLe
  have hh : h < 1024 := Nat.lt_of_lt_of_le l2 (Nat.pow_le_pow_right (by decide) hn : 2 ^ n ≤ 2 ^ 10)
  unfold f_T_claim f_M_claim
  cases hv : inb v n with
  | false =>
    refine ⟨-nI 1, σ, σ, ?_, ?_, hR0⟩
    · rw [hP.1.2.1, within_eq v (by omega), hv, bindE, if_pos (by decide)]
      rfl
    · rw [isOne_eq hP.1.2.2 hn, hv, bindE, if_pos (by decide)]
      rfl
  | true =>
    obtain ⟨c, hc, rfl⟩ := inb_of hv (by omega)
    have hw1 : f_T_within (nI c) (nI n) = some (bI true) := by rw [within_eq _ (by omega), hv]
    cases tc : h.testBit c with
    | true =>
      refine ⟨-nI 5, σ, σ, ?_, ?_, hR0⟩
      · rw [hP.1.2.1, hw1, bindE, if_neg (by decide), l3, has_eq (by omega) (by omega), tc, bindE, if_neg (by decide)]
        rfl
      · rw [isOne_eq hP.1.2.2 hn, hv, bindE, if_neg (by decide), l4, isIn_eq (by omega) (by omega), tc, bindE, if_neg (by decide)]
        rfl
    | false =>
      obtain ⟨τ, a1, a2, a3⟩ := Gnow (Or.inl rfl) hX
      obtain ⟨x, b1, b2⟩ := CmetBy a2 hr hc hh
      have hx64 : x < 64 := b2.lt (k := 6) fun w hw => Mt.lt hr hc w hw.2
      obtain ⟨f, hf⟩ : ∃ f, f = x &&& (t ^^^ 4294967295) := ⟨_, rfl⟩
      have hfb : Bits f (Fh n (sy V K E P B F D) K W c h t) := fun w => by
        rw [hf, tb_not hx64, b2 w, tc]
        simp only [true_and]
        rfl
      have hf64 : f < 64 := hfb.lt (k := 6) fun w hw => Mt.lt hr hc w hw.1
      have n36 : ∀ k, inT [0] 36 k = false ∨ k ≠ 1 ∧ k ≠ 2 := fun k => by
        by_cases k1 : k = 1
        · left; rw [k1]; rfl
        · by_cases k2 : k = 2
          · left; rw [k2]; rfl
          · right; exact ⟨k1, k2⟩
      have t36 : τ.1 36 1 = nI h := (a3.1 36 1 rfl).trans l3
      have t362 : τ.1 36 2 = nI t := (a3.1 36 2 rfl).trans l6
      have t37 : ∀ k, τ.1 37 k = σ.1 37 k := fun k => a3.1 37 k rfl
      obtain ⟨τ2, hτ2⟩ : ∃ τ2, τ2 = gpi (gpi (gpi (gpi τ 36 1 (nI (h ||| 2 ^ c))) 36 2 (nI (t ||| f))) 37 0 (τ.1 37 0 + nI 1)) 37 1 (τ.1 37 1 + nI (cnt f 10)) := ⟨_, rfl⟩
      have s1 : ∀ a k, τ2.1 a k = if a = 37 ∧ k = 1 then τ.1 37 1 + nI (cnt f 10) else if a = 37 ∧ k = 0 then τ.1 37 0 + nI 1 else if a = 36 ∧ k = 2 then nI (t ||| f) else if a = 36 ∧ k = 1 then nI (h ||| 2 ^ c) else τ.1 a k := fun a k => by
        rw [hτ2, gpi_at, gpi_at, gpi_at, gpi_at]
      have hent : f_Le_enter 36 (nI c) (nI x) τ = some (nI f, τ2) := by
        have hxx := nI_not (b := t) hx64
        rw [← hf] at hxx
        unfold f_Le_enter
        rw [hτ2]
        simp (disch := omega) only [gupE, gltE, gllE, litE, litLE, bindE, ↓reduceIte, gsi_at, gsi_l2, gsl_at, gsl_i1, upd_at, updL_at, Nat.reduceEqDiff, gix_nI, nI_clamp, bI_0, bI_gzb, Bool.true_eq_false, Bool.false_eq_true, t36, t362, hxx, sh1, nI_or, bc, cnt10]
      -- the reference, on what the class left
      have F2 : Fr (inT [5]) τ τ2 := by
        rw [hτ2]
        exact ((((Fr.rf _ τ).pi rfl).pi rfl).pi rfl).pi rfl
      have hX2 : Ctx τ2 n K E P B F W D m V := ⟨kPeo F2 rfl (hX.fr a3).1, kLwV F2 rfl (hX.fr a3).2.1, kShv F2 rfl (hX.fr a3).2.2⟩
      obtain ⟨υ, c1, c2, c3⟩ := Snow hX2
      have u21 : υ.1 59 21 = nI h := by
        rw [c3.1 59 21 rfl, s1, if_neg (by omega), if_neg (by omega), if_neg (by omega), if_neg (by omega), a3.1 59 21 rfl]
        exact l4
      have u22 : υ.1 59 22 = nI t := by
        rw [c3.1 59 22 rfl, s1, if_neg (by omega), if_neg (by omega), if_neg (by omega), if_neg (by omega), a3.1 59 22 rfl]
        exact l7
      obtain ⟨f', g1, g2, g3⟩ := Mclaim_L c2 hr hc u21 u22 hh l5
      have hff : f' = f := g2.eq hfb
      subst hff
      have d21 : τ2.1 59 21 = nI h := by
        rw [s1, if_neg (by omega), if_neg (by omega), if_neg (by omega), if_neg (by omega), a3.1 59 21 rfl]
        exact l4
      obtain ⟨υ2, hυ2⟩ : ∃ υ2, υ2 = gpi (gpi (gpi (gpi υ 59 21 (nI (h ||| 2 ^ c))) 59 22 (nI (t ||| f'))) 71 0 (υ.1 71 0 + nI 1)) 71 1 (υ.1 71 1 + nI (cnt f' 10)) := ⟨_, rfl⟩
      have s2 : ∀ a k, υ2.1 a k = if a = 71 ∧ k = 1 then υ.1 71 1 + nI (cnt f' 10) else if a = 71 ∧ k = 0 then υ.1 71 0 + nI 1 else if a = 59 ∧ k = 22 then nI (t ||| f') else if a = 59 ∧ k = 21 then nI (h ||| 2 ^ c) else υ.1 a k := fun a k => by
        rw [hυ2, gpi_at, gpi_at, gpi_at, gpi_at]
      have F3 : Fr (inT [5]) υ υ2 := by
        rw [hυ2]
        exact ((((Fr.rf _ υ).pi rfl).pi rfl).pi rfl).pi rfl
      have FF : Fr (inT [5, 0]) σ υ2 := (((a3.more (by intro i q; simp only [List.contains_cons, List.contains_nil, Bool.or_eq_false_iff] at q ⊢; exact ⟨q.2.1, trivial⟩)).tr (F2.more (by intro i q; simp only [List.contains_cons, List.contains_nil, Bool.or_eq_false_iff] at q ⊢; exact ⟨q.1, trivial⟩))).tr (c3.more (by intro i q; simp only [List.contains_cons, List.contains_nil, Bool.or_eq_false_iff] at q ⊢; exact ⟨q.2.1, trivial⟩))).tr (F3.more (by intro i q; simp only [List.contains_cons, List.contains_nil, Bool.or_eq_false_iff] at q ⊢; exact ⟨q.1, trivial⟩))
      have u37 : ∀ k, υ.1 37 k = τ2.1 37 k := fun k => c3.1 37 k rfl
      have u71 : ∀ k, υ.1 71 k = σ.1 71 k := fun k => by
        rw [c3.1 71 k rfl, s1, if_neg (by omega), if_neg (by omega), if_neg (by omega), if_neg (by omega), a3.1 71 k rfl]
      have hor : h ||| 2 ^ c < 2 ^ n := Nat.or_lt_two_pow l2 (Nat.pow_lt_pow_right (by decide) hc)
      refine ⟨nI f', τ2, υ2, ?_, ?_, n, K, E, P, B, F, W, D, m, kPeo FF rfl hP, kTap FF rfl hT, kLw FF rfl hL, kChg FF rfl hC, ⟨fun i hi => ?_, ⟨h ||| 2 ^ c, hor, ?_, ?_⟩, ⟨t ||| f', Nat.or_lt_two_pow (n := 6) l5 g1, ?_, ?_⟩⟩, kPic FF rfl hPi, kWrd FF rfl hW, kShv FF rfl hS, k0 FF rfl h0⟩
      · rw [hP.1.2.1, hw1, bindE, if_neg (by decide), l3, has_eq (by omega) (by omega), tc, bindE, if_pos (by decide), a1, bindE, t36, b1, bindE, hent, bindE]
      · rw [isOne_eq hX2.1.1.2.2 hn, hv, bindE, if_neg (by decide), d21, isIn_eq (by omega) (by omega), tc, bindE, if_pos (by decide), c1, bindE, litE, g3, ← hυ2]
      · rw [s2, s2, if_neg (by omega), if_neg (by omega), if_neg (by omega), if_neg (by omega), u37, s1, u71, u71]
        by_cases i1 : i = 1
        · subst i1
          rw [if_pos ⟨rfl, rfl⟩, if_pos ⟨rfl, rfl⟩, t37, l1 1 (by omega)]
        · by_cases i0 : i = 0
          · subst i0
            rw [if_neg (by omega), if_pos ⟨rfl, rfl⟩, if_neg (by omega), if_pos ⟨rfl, rfl⟩, t37, l1 0 (by omega)]
          · rw [if_neg (by omega), if_neg (by omega), if_neg (by omega), if_neg (by omega), if_neg (by omega), if_neg (by omega), if_neg (by omega), if_neg (by omega), u71, t37, l1 i hi]
      · rw [s2, if_neg (by omega), if_neg (by omega), if_neg (by omega), if_neg (by omega), c3.1 36 1 rfl, s1, if_neg (by omega), if_neg (by omega), if_neg (by omega), if_pos ⟨rfl, rfl⟩]
      · rw [s2, if_neg (by omega), if_neg (by omega), if_neg (by omega), if_pos ⟨rfl, rfl⟩]
      · rw [s2, if_neg (by omega), if_neg (by omega), if_neg (by omega), if_neg (by omega), c3.1 36 2 rfl, s1, if_neg (by omega), if_neg (by omega), if_pos ⟨rfl, rfl⟩]
      · rw [s2, if_neg (by omega), if_neg (by omega), if_pos ⟨rfl, rfl⟩]
