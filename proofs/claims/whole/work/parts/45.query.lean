/-! pure: questions; says, all, saying, strangers -/
abbrev VT : Type := Option ((Nat → Int32) → Int32)
def Ctx (σ : gS) (n : Nat) (K E P : Nat → Nat) (B : Nat → Int32) (F W D m : Nat) (V : VT) : Prop := Peo σ n K E P B F W D ∧ LwV σ V ∧ Shv σ m
theorem Ctx.fr {σ τ : gS} {n : Nat} {K E P : Nat → Nat} {B : Nat → Int32} {F W D m : Nat} {V : VT} (h : Ctx σ n K E P B F W D m V) (hF : Frs σ τ) : Ctx τ n K E P B F W D m V := ⟨kPeo hF rfl h.1, kLwV hF rfl h.2.1, kShv hF rfl h.2.2⟩
theorem agr_q {fT fM : gS → Option (Int32 × gS)} (h : ∀ σ n K E P B F W D m V, Ctx σ n K E P B F W D m V → ∃ x, (∃ τ, fT σ = some (x, τ) ∧ Frs σ τ) ∧ ∀ τ, Frs σ τ → Ctx τ n K E P B F W D m V → ∃ υ, fM τ = some (x, υ) ∧ Frs τ υ) : Agr fT fM := by
  intro σ hR
  have hR0 := hR
  obtain ⟨n, K, E, P, B, F, W, D, m, hP, hT, hL, hC, hLe, hPi, hW, hS, h0⟩ := hR
  obtain ⟨V, hV⟩ := hL.V
  obtain ⟨x, ⟨τ, e1, e2⟩, e3⟩ := h σ n K E P B F W D m V ⟨hP, hV, hS⟩
  obtain ⟨υ, e4, e5⟩ := e3 τ e2 (Ctx.fr ⟨hP, hV, hS⟩ e2)
  exact ⟨x, τ, υ, e1, e4, (hR0.frs e2).frs e5⟩
theorem fr_no {S : Nat → Nat → Bool} {σ τ : gS} (h : Fr S σ τ) (hS : ∀ c k, S c k = true → inT [0] c k = true) : Frs σ τ := h.sub fun c k q => by
  cases e : S c k with
  | false => rfl
  | true => rw [hS c k e] at q; cases q
theorem inT0 {c k : Nat} (h : (cPeo c k || cTap c k || cLw c k || cChg c k || cLed c k || cPic c k || cWrd c k || cShv c k || ((c == 68) && (k == 0))) = false) : inT [0] c k = true := by
  simp only [Bool.or_eq_false_iff] at h
  unfold inT comp
  simp only [h, Bool.false_eq_true, ↓reduceIte]
  rfl
theorem cSy_s (c k : Nat) (h : cSy c k = true) : inT [0] c k = true := by
  unfold cSy cSa at h
  simp only [Bool.or_eq_true, Bool.and_eq_true, beq_iff_eq] at h
  apply inT0
  simp only [cPeo, cTap, cLw, cChg, cLed, cPic, cWrd, cShv, Bool.or_eq_false_iff, Bool.and_eq_false_iff, beq_eq_false_iff_ne, ne_eq, decide_eq_false_iff_not]
  omega
theorem cGa_s {c0 : Nat} (hc : c0 = 11 ∨ c0 = 19) (c k : Nat) (h : cGa c0 c k = true) : inT [0] c k = true := by
  unfold cGa cSp at h
  simp only [Bool.or_eq_true, Bool.and_eq_true, beq_iff_eq] at h
  apply inT0
  simp only [cPeo, cTap, cLw, cChg, cLed, cPic, cWrd, cShv, Bool.or_eq_false_iff, Bool.and_eq_false_iff, beq_eq_false_iff_ne, ne_eq, decide_eq_false_iff_not]
  omega
theorem only_s {x : Nat} (hx : 9 ≤ x ∧ x ≤ 26 ∨ x = 29 ∨ x = 30 ∨ x = 66 ∨ x = 67 ∨ x = 69 ∨ x = 70 ∨ x = 79) (c k : Nat) (h : only x c k = true) : inT [0] c k = true := by
  unfold only at h
  simp only [beq_iff_eq] at h
  apply inT0
  simp only [cPeo, cTap, cLw, cChg, cLed, cPic, cWrd, cShv, Bool.or_eq_false_iff, Bool.and_eq_false_iff, beq_eq_false_iff_ne, ne_eq, decide_eq_false_iff_not]
  omega
theorem Gnow {c : Nat} (hc : c = 11 ∨ c = 19) {σ : gS} {n : Nat} {K E P : Nat → Nat} {B : Nat → Int32} {F W D m : Nat} {V : VT} (h : Ctx σ n K E P B F W D m V) :
    ∃ τ, f_Cr_gatherNow c σ = some τ ∧ CS c τ n (sy V K E P B F D) K W ∧ Frs σ τ := by
  obtain ⟨hP, hV, -⟩ := h
  obtain ⟨τ, e1, e2, e3⟩ := Cgather hc hP hV hP.2.2.1.1 hP.2.2.2.2.1
  refine ⟨τ, ?_, e2, fr_no e3 (cGa_s hc)⟩
  unfold f_Cr_gatherNow
  rw [hP.2.2.1.2.1, hP.2.2.2.2.2.1, e1]
  rfl
theorem Snow {σ : gS} {n : Nat} {K E P : Nat → Nat} {B : Nat → Int32} {F W D m : Nat} {V : VT} (h : Ctx σ n K E P B F W D m V) :
    ∃ τ, f_M_allSayNow σ = some τ ∧ MS τ n (sy V K E P B F D) K W ∧ Frs σ τ := by
  obtain ⟨hP, hV, -⟩ := h
  obtain ⟨τ, e1, e2, e3⟩ := MallSay hP.pm hV hP.2.2.1.1 hP.2.2.2.2.1
  refine ⟨τ, ?_, e2, fr_no e3 cSy_s⟩
  unfold f_M_allSayNow
  rw [hP.2.2.1.2.2, hP.2.2.2.2.2.2, e1]
  rfl
theorem Ctx.rg {σ : gS} {n : Nat} {K E P : Nat → Nat} {B : Nat → Int32} {F W D m : Nat} {V : VT} (h : Ctx σ n K E P B F W D m V) : Rg n (sy V K E P B F D) K W := sy_rg h.1.pm h.1.2.2.1.1
theorem Meverybody {σ : gS} {n : Nat} (h : σ.1 59 6 = nI n) (hn : n ≤ 10) : f_M_everybody σ = some (nI (2 ^ n - 1)) := by
  unfold f_M_everybody
  have h1 : 0 < 2 ^ n := Nat.two_pow_pos n
  simp only [litE, h, sh1 (show n < 32 by omega)]
  rw [pk_sub (by omega)]
theorem full_lt {n : Nat} (hn : n ≤ 10) : 2 ^ n - 1 < 1024 := by
  have : 2 ^ n ≤ 2 ^ 10 := Nat.pow_le_pow_right (by decide) hn
  omega
theorem tb_fullN {n j : Nat} (hj : j < n) : ((2 ^ n - 1).testBit j = true ↔ True) := ⟨fun _ => trivial, fun _ => tb_full.mpr hj⟩
/-- what has happened if all come: class and reference -/
theorem Mall_h {σ : gS} {n W : Nat} {s K : Nat → Nat} (hM : MS σ n s K W) (hR : Rg n s K W) : ∃ h, f_M_happenedBy (nI (2 ^ n - 1)) σ = some (nI h) ∧ Bits h (Hp n s K W (fun _ => True)) := by
  obtain ⟨h, e1, e2⟩ := Mhappened hM hR (m := 2 ^ n - 1) (by have := full_lt hR.1; omega)
  exact ⟨h, e1, e2.cg (Hp.cg fun j hj => tb_fullN hj)⟩
theorem Call_h {c : Nat} {σ : gS} {n W : Nat} {s K : Nat → Nat} (hM : CS c σ n s K W) (hR : Rg n s K W) : ∃ h τ, f_Cr_happened c (nI 10) σ = some (nI h, τ) ∧ Bits h (Hp n s K W (fun _ => True)) ∧ Fr (only (c + 3)) σ τ := by
  obtain ⟨h, τ, e1, e2, e3⟩ := Chappened hM hR (x := 10) (by decide)
  have := hR.1
  exact ⟨h, τ, e1, e2.cg (Hp.cg fun j hj => ⟨fun _ => trivial, fun _ => by omega⟩), e3⟩
theorem ag_says (v : Int32) : Agr (f_T_says v) (f_M_says v) := by
  refine agr_q fun σ n K E P B F W D m V h => ?_
  have hn := h.1.1.1
  have e6 := h.1.1.2.1
  unfold f_T_says f_M_says
  cases hv : inb v n with
  | false =>
    refine ⟨-nI 1, ⟨σ, ?_, Fr.rf _ _⟩, fun τ hF hC => ⟨τ, ?_, Fr.rf _ _⟩⟩
    · simp (disch := omega) only [gupE, gltE, gllE, litE, litLE, bindE, ↓reduceIte, gsi_at, gsi_l2, gsl_at, gsl_i1, upd_at, updL_at, Nat.reduceEqDiff, gix_nI, nI_clamp, bI_0, bI_gzb, Bool.true_eq_false, Bool.false_eq_true, e6, within_eq, hv]
    · simp (disch := omega) only [gupE, gltE, gllE, litE, litLE, bindE, ↓reduceIte, gsi_at, gsi_l2, gsl_at, gsl_i1, upd_at, updL_at, Nat.reduceEqDiff, gix_nI, nI_clamp, bI_0, bI_gzb, Bool.true_eq_false, Bool.false_eq_true, isOne_eq hC.1.1.2.2 hn, hv]
  | true =>
    obtain ⟨c, hc, rfl⟩ := inb_of hv (by omega)
    refine ⟨nI (spk V (B c) F (E c) (K c) (P c) D c), ?_, fun τ hF hC => ?_⟩
    · have hp := (h.1.2.1 c hc).2.1
      obtain ⟨τ, e1, e2⟩ := Tspeech h.1 h.2.1 hc (h.1.2.1 c hc).1.1 (h.1.2.1 c hc).1.2.1 h.1.2.2.1.1 h.1.2.2.2.2.1
      refine ⟨τ, ?_, fr_no e2 fun a k q => cGa_s (Or.inl rfl) a k (by unfold cGa; rw [q]; rfl)⟩
      unfold f_Isl_speechNow
      simp (disch := omega) only [gupE, gltE, gllE, litE, litLE, bindE, ↓reduceIte, gsi_at, gsi_l2, gsl_at, gsl_i1, upd_at, updL_at, Nat.reduceEqDiff, gix_nI, nI_clamp, bI_0, bI_gzb, Bool.true_eq_false, Bool.false_eq_true, e6, within_eq, hv, hp.1, hp.2.1, h.1.2.2.1.2.1, h.1.2.2.2.2.2.1, e1]
    · obtain ⟨υ, e1, e2⟩ := Msays hC.1.pm hC.2.1 hc h.1.2.2.1.1 h.1.2.2.2.2.1
      refine ⟨υ, ?_, fr_no e2 fun a k q => cSy_s a k (by unfold cSy; rw [q]; rfl)⟩
      simp (disch := omega) only [gupE, gltE, gllE, litE, litLE, bindE, ↓reduceIte, gsi_at, gsi_l2, gsl_at, gsl_i1, upd_at, updL_at, Nat.reduceEqDiff, gix_nI, nI_clamp, bI_0, bI_gzb, Bool.true_eq_false, Bool.false_eq_true, isOne_eq hC.1.1.2.2 hn, hv, hC.1.2.2.1.2.2, hC.1.2.2.2.2.2.2, e1]
theorem Mall_L {σ : gS} {n W v : Nat} {s K : Nat → Nat} (hM : MS σ n s K W) (hR : Rg n s K W) (hv : v < 100) : f_M_all_L20 gfu (nI v) (nI 0) (nI 0) σ = if v = 0 then (f_M_happenedBy (nI (2 ^ n - 1)) σ).bind fun q7 => some (q7, σ) else some (nI (sm (fun a => sm (fun b => agn s K W a b) a) n), σ) := by
  have hn := hR.1
  have e6 := hM.1.1
  refine loopG (fun fu i a => f_M_all_L20 fu (nI v) (nI a) (nI i) σ) (fun o => o = if v = 0 then (f_M_happenedBy (nI (2 ^ n - 1)) σ).bind fun q7 => some (q7, σ) else some (nI (sm (fun a => sm (fun b => agn s K W a b) a) n), σ)) (fun i x => x = sm (fun a => sm (fun b => agn s K W a b) a) i) n 0 0 (by omega) (by omega) rfl ?_ ?_
  · intro fu i a hi hp
    left
    refine ⟨_, ?_, rfl⟩
    have h1 : ¬ n ≤ i := by omega
    have inner := loopG (fun g j x => f_M_all_L31 (fun v1 v2 v3 σ => f_M_all_L20 fu v1 v2 v3 σ) g (nI v) (nI x) (nI i) (nI j) σ) (fun o => o = f_M_all_L20 fu (nI v) (nI (a + sm (fun b => agn s K W i b) i)) (nI (i + 1)) σ) (fun j x => x = a + sm (fun b => agn s K W i b) j) i 0 a (by omega) (by omega) rfl ?_ ?_
    · show f_M_all_L20 (fu + 1) (nI v) (nI a) (nI i) σ = f_M_all_L20 fu (nI v) (nI (sm _ i + sm (fun b => agn s K W i b) i)) (nI (i + 1)) σ
      rw [← hp, ← inner]
      simp (disch := omega) only [f_M_all_L20, gupE, gltE, gllE, litE, litLE, bindE, ↓reduceIte, gsi_at, gsi_l2, gsl_at, gsl_i1, upd_at, updL_at, Nat.reduceEqDiff, gix_nI, nI_clamp, bI_0, bI_gzb, Bool.true_eq_false, Bool.false_eq_true, e6, nI_leI, h1]
    · rintro g j x hj hx
      left
      have hs := hR.sk hi
      have hs2 := hR.sk (j := j) (by omega)
      have h2 : ¬ i ≤ j := by omega
      have hag := Magree hM hR hi (show j < n by omega)
      refine ⟨x + agn s K W i j, ?_, ?_⟩
      · by_cases t : agr s K W i j
        · simp (disch := omega) only [f_M_all_L31, f_M_all_j53, gupE, gltE, gllE, litE, litLE, bindE, ↓reduceIte, gsi_at, gsi_l2, gsl_at, gsl_i1, upd_at, updL_at, Nat.reduceEqDiff, gix_nI, nI_clamp, bI_0, bI_gzb, Bool.true_eq_false, Bool.false_eq_true, nI_leI, h2, hag, decide_eq_true t, nI_add, agn_t t]
        · simp (disch := omega) only [f_M_all_L31, f_M_all_j53, gupE, gltE, gllE, litE, litLE, bindE, ↓reduceIte, gsi_at, gsi_l2, gsl_at, gsl_i1, upd_at, updL_at, Nat.reduceEqDiff, gix_nI, nI_clamp, bI_0, bI_gzb, Bool.true_eq_false, Bool.false_eq_true, nI_leI, h2, hag, decide_eq_false t, nI_add, agn_f t]
      · show _ = a + (sm _ j + agn s K W i j)
        rw [hx]
        omega
    · rintro g x hx
      subst hx
      have h2 : nI i ≤ nI i := Int32.le_refl _
      simp (disch := omega) only [f_M_all_L31, gupE, gltE, gllE, litE, litLE, bindE, ↓reduceIte, gsi_at, gsi_l2, gsl_at, gsl_i1, upd_at, updL_at, Nat.reduceEqDiff, gix_nI, nI_clamp, bI_0, bI_gzb, Bool.true_eq_false, Bool.false_eq_true, h2, nI_add]
  · intro fu a hp
    subst hp
    have h2 : nI n ≤ nI n := Int32.le_refl _
    simp (disch := omega) only [f_M_all_L20, gupE, gltE, gllE, litE, litLE, bindE, ↓reduceIte, gsi_at, gsi_l2, gsl_at, gsl_i1, upd_at, updL_at, Nat.reduceEqDiff, gix_nI, nI_clamp, bI_0, bI_gzb, Bool.true_eq_false, Bool.false_eq_true, e6, h2, nI_eq, Meverybody e6 hn]
theorem ag_all (v : Int32) : Agr (f_T_all v) (f_M_all v) := by
  refine agr_q fun σ n K E P B F W D m V h => ?_
  have hn := h.1.1.1
  have hr := h.rg
  unfold f_T_all f_M_all
  cases hv : inb v 2 with
  | false =>
    refine ⟨-nI 1, ⟨σ, ?_, Fr.rf _ _⟩, fun τ hF hC => ⟨τ, ?_, Fr.rf _ _⟩⟩
    · simp (disch := omega) only [gupE, gltE, gllE, litE, litLE, bindE, ↓reduceIte, gsi_at, gsi_l2, gsl_at, gsl_i1, upd_at, updL_at, Nat.reduceEqDiff, gix_nI, nI_clamp, bI_0, bI_gzb, Bool.true_eq_false, Bool.false_eq_true, within_eq, hv]
    · simp (disch := omega) only [gupE, gltE, gllE, litE, litLE, bindE, ↓reduceIte, gsi_at, gsi_l2, gsl_at, gsl_i1, upd_at, updL_at, Nat.reduceEqDiff, gix_nI, nI_clamp, bI_0, bI_gzb, Bool.true_eq_false, Bool.false_eq_true, Mwithin0, hv]
  | true =>
    obtain ⟨j, hj, rfl⟩ := inb_of hv (by omega)
    obtain ⟨τ1, a1, a2, a3⟩ := Gnow (Or.inl rfl) h
    by_cases j0 : j = 0
    · subst j0
      obtain ⟨x, τ2, b1, b2, b3⟩ := Call_h a2 hr
      refine ⟨nI x, ⟨τ2, ?_, a3.tr (fr_no b3 (only_s (by omega)))⟩, fun τ hF hC => ?_⟩
      · simp (disch := omega) only [gupE, gltE, gllE, litE, litLE, bindE, ↓reduceIte, gsi_at, gsi_l2, gsl_at, gsl_i1, upd_at, updL_at, Nat.reduceEqDiff, gix_nI, nI_clamp, bI_0, bI_gzb, Bool.true_eq_false, Bool.false_eq_true, within_eq, hv, a1, b1]
      · obtain ⟨υ, c1, c2, c3⟩ := Snow hC
        obtain ⟨y, d1, d2⟩ := Mall_h c2 hr
        refine ⟨υ, ?_, c3⟩
        have hL := Mall_L c2 hr (v := 0) (by decide)
        rw [if_pos rfl, d1, d2.eq b2] at hL
        generalize f_M_all_L20 gfu = G at hL ⊢
        simp (disch := omega) only [gupE, gltE, gllE, litE, litLE, bindE, ↓reduceIte, gsi_at, gsi_l2, gsl_at, gsl_i1, upd_at, updL_at, Nat.reduceEqDiff, gix_nI, nI_clamp, bI_0, bI_gzb, Bool.true_eq_false, Bool.false_eq_true, Mwithin0, hv, c1, hL]
    · have hj1 : j = 1 := by omega
      subst hj1
      have e := Cagreeing a2 hr
      rw [sm_pairs (fun a b => agn_cm _ K W a b)] at e
      refine ⟨nI (sm (fun a => sm (fun b => agn (sy V K E P B F D) K W a b) a) n), ⟨τ1, ?_, a3⟩, fun τ hF hC => ?_⟩
      · have h10 : ¬ nI 1 = nI 0 := by decide
        simp (disch := omega) only [gupE, gltE, gllE, litE, litLE, bindE, ↓reduceIte, gsi_at, gsi_l2, gsl_at, gsl_i1, upd_at, updL_at, Nat.reduceEqDiff, gix_nI, nI_clamp, bI_0, bI_gzb, Bool.true_eq_false, Bool.false_eq_true, within_eq, hv, a1, e, h10]
      · obtain ⟨υ, c1, c2, c3⟩ := Snow hC
        refine ⟨υ, ?_, c3⟩
        have hL := Mall_L c2 hr (v := 1) (by decide)
        rw [if_neg (by decide)] at hL
        generalize f_M_all_L20 gfu = G at hL ⊢
        simp (disch := omega) only [gupE, gltE, gllE, litE, litLE, bindE, ↓reduceIte, gsi_at, gsi_l2, gsl_at, gsl_i1, upd_at, updL_at, Nat.reduceEqDiff, gix_nI, nI_clamp, bI_0, bI_gzb, Bool.true_eq_false, Bool.false_eq_true, Mwithin0, hv, c1, hL]
theorem Msaying_L {σ : gS} {n W w : Nat} {s K : Nat → Nat} (hM : MS σ n s K W) (hR : Rg n s K W) (hw : w < 6) : f_M_saying_L18 gfu (nI w) (nI 0) (nI 0) σ = some (nI (sm (fun j => if w ≤ s j ∧ s j ≤ w then 1 else 0) n), σ) := by
  have hn := hR.1
  have e6 := hM.1.1
  refine loopG (fun fu i a => f_M_saying_L18 fu (nI w) (nI a) (nI i) σ) (fun o => o = some (nI (sm (fun j => if w ≤ s j ∧ s j ≤ w then 1 else 0) n), σ)) (fun i x => x = sm (fun j => if w ≤ s j ∧ s j ≤ w then 1 else 0) i) n 0 0 (by omega) (by omega) rfl ?_ ?_
  · intro fu i a hi hx
    left
    refine ⟨_, ?_, rfl⟩
    have hs := hR.sk hi
    have h1 : ¬ n ≤ i := by omega
    have es := (hM.2 i hi).1
    show f_M_saying_L18 (fu + 1) (nI w) (nI a) (nI i) σ = f_M_saying_L18 fu (nI w) (nI (sm _ i + if w ≤ s i ∧ s i ≤ w then 1 else 0)) (nI (i + 1)) σ
    rw [← hx]
    by_cases t : s i = w
    · have t2 : w ≤ s i ∧ s i ≤ w := by omega
      rw [if_pos t2]
      simp (disch := omega) only [f_M_saying_L18, f_M_saying_j42, gupE, gltE, gllE, litE, litLE, bindE, ↓reduceIte, gsi_at, gsi_l2, gsl_at, gsl_i1, upd_at, updL_at, Nat.reduceEqDiff, gix_nI, nI_clamp, bI_0, bI_gzb, Bool.true_eq_false, Bool.false_eq_true, e6, nI_leI, h1, es, nI_eq, t, nI_add]
    · have t2 : ¬ (w ≤ s i ∧ s i ≤ w) := by omega
      rw [if_neg t2]
      simp (disch := omega) only [f_M_saying_L18, f_M_saying_j42, gupE, gltE, gllE, litE, litLE, bindE, ↓reduceIte, gsi_at, gsi_l2, gsl_at, gsl_i1, upd_at, updL_at, Nat.reduceEqDiff, gix_nI, nI_clamp, bI_0, bI_gzb, Bool.true_eq_false, Bool.false_eq_true, e6, nI_leI, h1, es, nI_eq, t, nI_add]
  · intro fu a hx
    subst hx
    have h2 : nI n ≤ nI n := Int32.le_refl _
    simp (disch := omega) only [f_M_saying_L18, gupE, gltE, gllE, litE, litLE, bindE, ↓reduceIte, gsi_at, gsi_l2, gsl_at, gsl_i1, upd_at, updL_at, Nat.reduceEqDiff, gix_nI, nI_clamp, bI_0, bI_gzb, Bool.true_eq_false, Bool.false_eq_true, e6, h2]
theorem ag_saying (v : Int32) : Agr (f_T_saying v) (f_M_saying v) := by
  refine agr_q fun σ n K E P B F W D m V h => ?_
  have hn := h.1.1.1
  have hr := h.rg
  unfold f_T_saying f_M_saying
  cases hv : inb v 6 with
  | false =>
    refine ⟨-nI 1, ⟨σ, ?_, Fr.rf _ _⟩, fun τ hF hC => ⟨τ, ?_, Fr.rf _ _⟩⟩
    · simp (disch := omega) only [gupE, gltE, gllE, litE, litLE, bindE, ↓reduceIte, gsi_at, gsi_l2, gsl_at, gsl_i1, upd_at, updL_at, Nat.reduceEqDiff, gix_nI, nI_clamp, bI_0, bI_gzb, Bool.true_eq_false, Bool.false_eq_true, within_eq, hv]
    · simp (disch := omega) only [gupE, gltE, gllE, litE, litLE, bindE, ↓reduceIte, gsi_at, gsi_l2, gsl_at, gsl_i1, upd_at, updL_at, Nat.reduceEqDiff, gix_nI, nI_clamp, bI_0, bI_gzb, Bool.true_eq_false, Bool.false_eq_true, isWeather_eq, hv]
  | true =>
    obtain ⟨w, hw, rfl⟩ := inb_of hv (by omega)
    obtain ⟨τ1, a1, a2, a3⟩ := Gnow (Or.inl rfl) h
    have e := Cspeakers a2 hr (p := w) (q := w) (by omega) (by omega)
    refine ⟨nI (sm (fun j => if w ≤ sy V K E P B F D j ∧ sy V K E P B F D j ≤ w then 1 else 0) n), ⟨τ1, ?_, a3⟩, fun τ hF hC => ?_⟩
    · simp (disch := omega) only [gupE, gltE, gllE, litE, litLE, bindE, ↓reduceIte, gsi_at, gsi_l2, gsl_at, gsl_i1, upd_at, updL_at, Nat.reduceEqDiff, gix_nI, nI_clamp, bI_0, bI_gzb, Bool.true_eq_false, Bool.false_eq_true, within_eq, hv, a1, e]
    · obtain ⟨υ, c1, c2, c3⟩ := Snow hC
      refine ⟨υ, ?_, c3⟩
      have hL := Msaying_L c2 hr hw
      generalize f_M_saying_L18 gfu = G at hL ⊢
      simp (disch := omega) only [gupE, gltE, gllE, litE, litLE, bindE, ↓reduceIte, gsi_at, gsi_l2, gsl_at, gsl_i1, upd_at, updL_at, Nat.reduceEqDiff, gix_nI, nI_clamp, bI_0, bI_gzb, Bool.true_eq_false, Bool.false_eq_true, isWeather_eq, hv, c1, hL]
theorem sm_pos {g : Nat → Nat} : ∀ k, 0 < sm g k ↔ ∃ j, j < k ∧ 0 < g j
  | 0 => ⟨fun q => absurd q (Nat.lt_irrefl 0), fun ⟨j, q, _⟩ => absurd q (Nat.not_lt_zero j)⟩
  | k + 1 => by
    have ih := sm_pos (g := g) k
    show 0 < sm g k + g k ↔ _
    constructor
    · intro q
      by_cases z : 0 < g k
      · exact ⟨k, by omega, z⟩
      · obtain ⟨j, h1, h2⟩ := ih.mp (by omega)
        exact ⟨j, by omega, h2⟩
    · rintro ⟨j, h1, h2⟩
      by_cases z : j = k
      · subst z
        omega
      · have := ih.mpr ⟨j, by omega, h2⟩
        omega
theorem Mstr_L {σ : gS} {n W w : Nat} {s K : Nat → Nat} (hM : MS σ n s K W) (hR : Rg n s K W) (hw : w < 6) : f_M_strangers_L33 gfu (nI w) (nI 0) σ = some (if 0 < sm (fun j => if w ≤ s j ∧ s j ≤ w + W then 1 else 0) n then nI 1 else nI 2, σ) := by
  have hn := hR.1
  have hW := hR.2.1
  have e6 := hM.1.1
  refine loopG (fun fu i (_ : Nat) => f_M_strangers_L33 fu (nI w) (nI i) σ) (fun o => o = some (if 0 < sm (fun j => if w ≤ s j ∧ s j ≤ w + W then 1 else 0) n then nI 1 else nI 2, σ)) (fun i _ => ∀ j, j < i → ¬ (w ≤ s j ∧ s j ≤ w + W)) n 0 0 (by omega) (by omega) (fun j h => absurd h (Nat.not_lt_zero j)) ?_ ?_
  · intro fu i a hi hx
    have hs := hR.sk hi
    have h1 : ¬ n ≤ i := by omega
    have es := (hM.2 i hi).1
    have hstep : ¬ (w ≤ s i ∧ s i ≤ w + W) → ∀ j, j < i + 1 → ¬ (w ≤ s j ∧ s j ≤ w + W) := by
      intro q j hj
      by_cases z : j = i
      · subst z
        exact q
      · exact hx j (by omega)
    by_cases t1 : s i < w
    · left
      refine ⟨0, ?_, hstep (by omega)⟩
      simp (disch := omega) only [f_M_strangers_L33, gupE, gltE, gllE, litE, litLE, bindE, ↓reduceIte, gsi_at, gsi_l2, gsl_at, gsl_i1, upd_at, updL_at, Nat.reduceEqDiff, gix_nI, nI_clamp, bI_0, bI_gzb, Bool.true_eq_false, Bool.false_eq_true, e6, nI_leI, h1, es, nI_ltI, t1, nI_add]
    · by_cases t2 : W < s i - w
      · left
        refine ⟨0, ?_, hstep (by omega)⟩
        simp (disch := omega) only [f_M_strangers_L33, gupE, gltE, gllE, litE, litLE, bindE, ↓reduceIte, gsi_at, gsi_l2, gsl_at, gsl_i1, upd_at, updL_at, Nat.reduceEqDiff, gix_nI, nI_clamp, bI_0, bI_gzb, Bool.true_eq_false, Bool.false_eq_true, e6, nI_leI, h1, es, nI_ltI, t1, pk_sub, hM.1.2, t2, nI_add]
      · right
        have hp : 0 < sm (fun j => if w ≤ s j ∧ s j ≤ w + W then 1 else 0) n := (sm_pos n).mpr ⟨i, hi, by
          show 0 < if w ≤ s i ∧ s i ≤ w + W then 1 else 0
          rw [if_pos (by omega)]
          exact Nat.one_pos⟩
        rw [if_pos hp]
        simp (disch := omega) only [f_M_strangers_L33, gupE, gltE, gllE, litE, litLE, bindE, ↓reduceIte, gsi_at, gsi_l2, gsl_at, gsl_i1, upd_at, updL_at, Nat.reduceEqDiff, gix_nI, nI_clamp, bI_0, bI_gzb, Bool.true_eq_false, Bool.false_eq_true, e6, nI_leI, h1, es, nI_ltI, t1, pk_sub, hM.1.2, t2]
  · intro fu a hx
    have h2 : nI n ≤ nI n := Int32.le_refl _
    have hp : ¬ 0 < sm (fun j => if w ≤ s j ∧ s j ≤ w + W then 1 else 0) n := fun q => by
      obtain ⟨j, q1, q2⟩ := (sm_pos n).mp q
      have := hx j q1
      rw [if_neg this] at q2
      omega
    rw [if_neg hp]
    simp (disch := omega) only [f_M_strangers_L33, gupE, gltE, gllE, litE, litLE, bindE, ↓reduceIte, gsi_at, gsi_l2, gsl_at, gsl_i1, upd_at, updL_at, Nat.reduceEqDiff, gix_nI, nI_clamp, bI_0, bI_gzb, Bool.true_eq_false, Bool.false_eq_true, e6, h2]
theorem ag_strangers (v : Int32) : Agr (f_T_strangers v) (f_M_strangers v) := by
  refine agr_q fun σ n K E P B F W D m V h => ?_
  have hn := h.1.1.1
  have hr := h.rg
  have hW := hr.2.1
  unfold f_T_strangers f_M_strangers
  cases hv : inb v 6 with
  | false =>
    refine ⟨-nI 1, ⟨σ, ?_, Fr.rf _ _⟩, fun τ hF hC => ⟨τ, ?_, Fr.rf _ _⟩⟩
    · simp (disch := omega) only [gupE, gltE, gllE, litE, litLE, bindE, ↓reduceIte, gsi_at, gsi_l2, gsl_at, gsl_i1, upd_at, updL_at, Nat.reduceEqDiff, gix_nI, nI_clamp, bI_0, bI_gzb, Bool.true_eq_false, Bool.false_eq_true, within_eq, hv]
    · simp (disch := omega) only [gupE, gltE, gllE, litE, litLE, bindE, ↓reduceIte, gsi_at, gsi_l2, gsl_at, gsl_i1, upd_at, updL_at, Nat.reduceEqDiff, gix_nI, nI_clamp, bI_0, bI_gzb, Bool.true_eq_false, Bool.false_eq_true, isWeather_eq, hv]
  | true =>
    obtain ⟨w, hw, rfl⟩ := inb_of hv (by omega)
    obtain ⟨τ1, a1, a2, a3⟩ := Gnow (Or.inl rfl) h
    obtain ⟨b, b1, b2⟩ := ChappensOn a2 hr hw
    have e := Cspeakers a2 hr (p := w) (q := w + W) (by omega) (by omega)
    have hw8 : τ1.1 1 8 = nI W := (a3.1 1 8 rfl).trans h.1.2.2.2.1.2.1
    refine ⟨if b = true then nI 0 else if 0 < sm (fun j => if w ≤ sy V K E P B F D j ∧ sy V K E P B F D j ≤ w + W then 1 else 0) n then nI 1 else nI 2, ⟨τ1, ?_, a3⟩, fun τ hF hC => ?_⟩
    · have hle : sm (fun j => if w ≤ sy V K E P B F D j ∧ sy V K E P B F D j ≤ w + W then 1 else 0) n ≤ n * 1 := sm_le (fun j => by split <;> omega) n
      simp (disch := omega) only [gupE, gltE, gllE, litE, litLE, bindE, ↓reduceIte, gsi_at, gsi_l2, gsl_at, gsl_i1, upd_at, updL_at, Nat.reduceEqDiff, gix_nI, nI_clamp, bI_0, bI_gzb, Bool.true_eq_false, Bool.false_eq_true, within_eq, hv, a1, b1, hw8, nI_add, e]
      cases b with
      | true => simp only [Bool.true_eq_false, ↓reduceIte]
      | false =>
        simp (disch := omega) only [Bool.false_eq_true, ↓reduceIte, nI_leI]
        by_cases q : 0 < sm (fun j => if w ≤ sy V K E P B F D j ∧ sy V K E P B F D j ≤ w + W then 1 else 0) n
        · rw [if_neg (by omega), if_pos q]
        · rw [if_pos (by omega), if_neg q]
    · obtain ⟨υ, c1, c2, c3⟩ := Snow hC
      obtain ⟨y, d1, d2⟩ := Mall_h c2 hr
      refine ⟨υ, ?_, c3⟩
      have hy := d2.lt6 (Hp.lt hr)
      have hb : y.testBit w = b := by
        have h1 := d2 w
        cases e1 : y.testBit w <;> cases e2 : b <;> simp [e1, e2] at h1 b2 ⊢
        · exact absurd b2 h1
        · exact absurd h1 b2
      have hL := Mstr_L c2 hr hw
      generalize f_M_strangers_L33 gfu = G at hL ⊢
      simp (disch := omega) only [gupE, gltE, gllE, litE, litLE, bindE, ↓reduceIte, gsi_at, gsi_l2, gsl_at, gsl_i1, upd_at, updL_at, Nat.reduceEqDiff, gix_nI, nI_clamp, bI_0, bI_gzb, Bool.true_eq_false, Bool.false_eq_true, isWeather_eq, hv, c1, Meverybody c2.1.1 hn, d1, isIn_eq, hb, hL]
      cases b <;> simp only [Bool.true_eq_false, Bool.false_eq_true, ↓reduceIte]
