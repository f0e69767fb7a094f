/-! pure: mend, undo, redo -/
def inC (T : List Nat) (c k : Nat) : Bool := decide (c < 59) && inT T c k
def inM (T : List Nat) (c k : Nat) : Bool := decide (59 ≤ c) && inT T c k
theorem FrC_hi {T : List Nat} {σ τ : gS} (h : Fr (inC T) σ τ) {c : Nat} (hc : 59 ≤ c) (k : Nat) : τ.1 c k = σ.1 c k := h.1 c k (by
  have : ¬ c < 59 := by omega
  simp [inC, this])
theorem FrC_hi2 {T : List Nat} {σ τ : gS} (h : Fr (inC T) σ τ) {c : Nat} (hc : 59 ≤ c) (k : Nat) : τ.2 c k = σ.2 c k := h.2 c k (by
  have : ¬ c < 59 := by omega
  simp [inC, this])
theorem FrM_lo {T : List Nat} {σ τ : gS} (h : Fr (inM T) σ τ) {c : Nat} (hc : c < 59) (k : Nat) : τ.1 c k = σ.1 c k := h.1 c k (by
  have : ¬ 59 ≤ c := by omega
  simp [inM, this])
theorem FrM_lo2 {T : List Nat} {σ τ : gS} (h : Fr (inM T) σ τ) {c : Nat} (hc : c < 59) (k : Nat) : τ.2 c k = σ.2 c k := h.2 c k (by
  have : ¬ 59 ≤ c := by omega
  simp [inM, this])
theorem Fr.ofC {T : List Nat} {σ τ : gS} (h : Fr (inC T) σ τ) : Fr (inT T) σ τ := h.sub fun c k q => by simp [inC, q]
theorem Fr.ofM {T : List Nat} {σ τ : gS} (h : Fr (inM T) σ τ) : Fr (inT T) σ τ := h.sub fun c k q => by simp [inM, q]
theorem Fr.more {T T2 : List Nat} {σ τ : gS} (h : Fr (inT T) σ τ) (hT : ∀ i, T2.contains i = false → T.contains i = false) : Fr (inT T2) σ τ := h.sub fun c k q => hT _ q
/-- all numbers by what and citizen -/
def cc (w u : Nat) : Nat × Nat := if w < 4 then (2 + w, u) else (1, 3 + w)
def PeoN (σ : gS) (n : Nat) (N : Nat → Nat → Int32) : Prop := (n ≤ 10 ∧ σ.1 1 6 = nI n ∧ σ.1 59 6 = nI n) ∧ ∀ w u, okn n w u → okv w (N w u) = true ∧ σ.1 (cc w u).1 (cc w u).2 = N w u ∧ σ.1 60 (plc w u) = N w u
theorem okv_bok {v : Int32} : okv 3 v = true ↔ bok v := by
  rw [okv3]
  simp only [Bool.or_eq_true, decide_eq_true_eq]
  constructor
  · rintro (h | h)
    · exact Or.inl h
    · obtain ⟨w, h1, h2⟩ := inb_of h (by decide)
      exact Or.inr ⟨w, h1, h2⟩
  · rintro (h | ⟨w, h1, rfl⟩)
    · exact Or.inl h
    · exact Or.inr (by rw [inb_nI (by omega)]; simp [h1])
theorem Peo.N {σ : gS} {n : Nat} {K E P : Nat → Nat} {B : Nat → Int32} {F W D : Nat} (h : Peo σ n K E P B F W D) : PeoN σ n (vof K E P B F W D) := by
  refine ⟨h.1, fun w u hk => ⟨?_, ?_, may_eq h hk⟩⟩
  · obtain ⟨⟨hn, h1, h2⟩, h4, h5, h6, h7⟩ := h
    obtain ⟨a1, a2, a3⟩ := hk
    have : w = 0 ∨ w = 1 ∨ w = 2 ∨ w = 3 ∨ w = 4 ∨ w = 5 ∨ w = 6 := by omega
    rcases this with rfl | rfl | rfl | rfl | rfl | rfl | rfl
    · have := (h4 u (a2 (by decide))).1.1
      rw [okv0, show vof K E P B F W D 0 u = nI (K u) from rfl, inb_nI (by omega)]
      simp [this]
    · have := (h4 u (a2 (by decide))).1.2.1
      rw [okv1, show vof K E P B F W D 1 u = nI (E u) from rfl, inb_nI (by omega)]
      simp [this]
    · have := (h4 u (a2 (by decide))).1.2.2.1
      rw [okv2, show vof K E P B F W D 2 u = nI (P u) from rfl, inb_nI (by omega)]
      simp [this]
    · exact okv_bok.mpr (h4 u (a2 (by decide))).1.2.2.2
    · rw [okv4, show vof K E P B F W D 4 u = nI F from rfl, inb_nI (by omega)]
      simp [h5.1]
    · rw [okv5, show vof K E P B F W D 5 u = nI W from rfl, inb_nI (by omega)]
      simp [h6.1]
    · rw [okv6, show vof K E P B F W D 6 u = nI D from rfl, inb_nI (by omega)]
      simp [h7.1]
  · obtain ⟨⟨hn, h1, h2⟩, h4, h5, h6, h7⟩ := h
    obtain ⟨a1, a2, a3⟩ := hk
    have : w = 0 ∨ w = 1 ∨ w = 2 ∨ w = 3 ∨ w = 4 ∨ w = 5 ∨ w = 6 := by omega
    rcases this with rfl | rfl | rfl | rfl | rfl | rfl | rfl
    · exact (h4 u (a2 (by decide))).2.1.1
    · exact (h4 u (a2 (by decide))).2.1.2.1
    · exact (h4 u (a2 (by decide))).2.1.2.2.1
    · exact (h4 u (a2 (by decide))).2.1.2.2.2
    · exact h5.2.1
    · exact h6.2.1
    · exact h7.2.1
theorem okn_c {n w u : Nat} (hw : w < 4) (hu : u < n) : okn n w u := ⟨by omega, fun _ => hu, fun q => by omega⟩
theorem okn_g {n w : Nat} (hw : 4 ≤ w) (h7 : w < 7) : okn n w 0 := ⟨h7, fun q => by omega, fun _ => rfl⟩
theorem PeoN.P {σ : gS} {n : Nat} {N : Nat → Nat → Int32} (h : PeoN σ n N) : ∃ K E P B F W D, Peo σ n K E P B F W D := by
  obtain ⟨h0, h⟩ := h
  have cl : ∀ {v : Int32} {s : Nat}, inb v s = true → s < 1000 → v.toNatClampNeg < s ∧ v = nI v.toNatClampNeg := by
    intro v s hv hs
    obtain ⟨j, h1, rfl⟩ := inb_of hv (by omega)
    rw [nI_clamp (by omega)]
    exact ⟨h1, rfl⟩
  refine ⟨fun c => (N 0 c).toNatClampNeg, fun c => (N 1 c).toNatClampNeg, fun c => (N 2 c).toNatClampNeg, N 3, (N 4 0).toNatClampNeg, (N 5 0).toNatClampNeg, (N 6 0).toNatClampNeg, h0, fun c hc => ?_, ?_, ?_, ?_⟩
  · obtain ⟨a0, b0, c0⟩ := h 0 c (okn_c (by decide) hc)
    obtain ⟨a1, b1, c1⟩ := h 1 c (okn_c (by decide) hc)
    obtain ⟨a2, b2, c2⟩ := h 2 c (okn_c (by decide) hc)
    obtain ⟨a3, b3, c3⟩ := h 3 c (okn_c (by decide) hc)
    rw [okv0] at a0
    rw [okv1] at a1
    rw [okv2] at a2
    obtain ⟨d0, e0⟩ := cl a0 (by decide)
    obtain ⟨d1, e1⟩ := cl a1 (by decide)
    obtain ⟨d2, e2⟩ := cl a2 (by decide)
    have z0 : σ.1 60 c = N 0 c := by rw [← c0]; simp [plc]
    refine ⟨⟨d0, d1, d2, okv_bok.mp a3⟩, ⟨b0.trans e0, b1.trans e1, b2.trans e2, b3⟩, z0.trans e0, c1.trans e1, c2.trans e2, c3⟩
  · obtain ⟨a, b, c⟩ := h 4 0 (okn_g (by decide) (by decide))
    rw [okv4] at a
    obtain ⟨d, e⟩ := cl a (by decide)
    exact ⟨d, b.trans e, c.trans e⟩
  · obtain ⟨a, b, c⟩ := h 5 0 (okn_g (by decide) (by decide))
    rw [okv5] at a
    obtain ⟨d, e⟩ := cl a (by decide)
    exact ⟨d, b.trans e, c.trans e⟩
  · obtain ⟨a, b, c⟩ := h 6 0 (okn_g (by decide) (by decide))
    rw [okv6] at a
    obtain ⟨d, e⟩ := cl a (by decide)
    exact ⟨d, b.trans e, c.trans e⟩
theorem cc_inj {n w u w' u' : Nat} (h : okn n w u) (h' : okn n w' u') (e1 : (cc w u).1 = (cc w' u').1) (e2 : (cc w u).2 = (cc w' u').2) : w = w' ∧ u = u' := by
  obtain ⟨a1, a2, a3⟩ := h
  obtain ⟨b1, b2, b3⟩ := h'
  unfold cc at e1 e2
  by_cases c1 : w < 4 <;> by_cases c2 : w' < 4 <;> simp only [c1, c2, ↓reduceIte] at e1 e2
  · omega
  · omega
  · omega
  · have := a3 (by omega)
    have := b3 (by omega)
    omega
theorem plc_inj {n w u w' u' : Nat} (hn : n ≤ 10) (h : okn n w u) (h' : okn n w' u') (e : plc w u = plc w' u') : w = w' ∧ u = u' := by
  obtain ⟨a1, a2, a3⟩ := h
  obtain ⟨b1, b2, b3⟩ := h'
  unfold plc at e
  by_cases c1 : w < 4 <;> by_cases c2 : w' < 4 <;> simp only [c1, c2, ↓reduceIte] at e
  · have := a2 c1
    have := b2 c2
    omega
  · have := a2 c1
    omega
  · have := b2 c2
    omega
  · have := a3 (by omega)
    have := b3 (by omega)
    omega
def setN (N : Nat → Nat → Int32) (w u : Nat) (v : Int32) : Nat → Nat → Int32 := fun w' u' => if w' = w ∧ u' = u then v else N w' u'
theorem PeoN.set {σ τ : gS} {n : Nat} {N : Nat → Nat → Int32} (h : PeoN σ n N) {w u : Nat} {v : Int32} (hk : okn n w u) (hv : okv w v = true) (hs : τ.1 1 6 = σ.1 1 6) (hs2 : τ.1 59 6 = σ.1 59 6)
    (hc : ∀ w' u', okn n w' u' → τ.1 (cc w' u').1 (cc w' u').2 = if (cc w' u').1 = (cc w u).1 ∧ (cc w' u').2 = (cc w u).2 then v else σ.1 (cc w' u').1 (cc w' u').2)
    (hm : ∀ p, p < 43 → τ.1 60 p = if p = plc w u then v else σ.1 60 p) : PeoN τ n (setN N w u v) := by
  obtain ⟨⟨hn, h1, h2⟩, h⟩ := h
  refine ⟨⟨hn, hs.trans h1, hs2.trans h2⟩, fun w' u' hk' => ?_⟩
  obtain ⟨a, b, c⟩ := h w' u' hk'
  rw [hc w' u' hk', hm _ (plc_lt hn hk')]
  unfold setN
  by_cases e : w' = w ∧ u' = u
  · obtain ⟨rfl, rfl⟩ := e
    simp [hv]
  · have e1 : ¬ ((cc w' u').1 = (cc w u).1 ∧ (cc w' u').2 = (cc w u).2) := fun q => e (cc_inj hk' hk q.1 q.2)
    have e2 : ¬ plc w' u' = plc w u := fun q => e (plc_inj hn hk' hk q)
    simp only [e, e1, e2, ↓reduceIte]
    exact ⟨a, b, c⟩
theorem write_eq {σ : gS} {n : Nat} (h1 : σ.1 1 6 = nI n) (hn : n ≤ 10) {w u : Nat} {v : Int32} (hk : okn n w u) (hv : okv w v = true) : f_Isl_write (nI u) (nI w) v σ = some (gpi σ (cc w u).1 (cc w u).2 v) := by
  unfold f_Isl_write
  simp (disch := omega) only [gupE, gltE, gllE, litE, litLE, bindE, ↓reduceIte, gsi_at, gsi_l2, gsl_at, gsl_i1, upd_at, updL_at, Nat.reduceEqDiff, gix_nI, nI_clamp, bI_0, bI_gzb, Bool.true_eq_false, Bool.false_eq_true, knows_eq h1 hn, knb_of hn hk, takes_eq hk.1, hv, nI_eq]
  obtain ⟨a1, a2, a3⟩ := hk
  by_cases h : w < 4
  · have hu := a2 h
    have hg : gix (nI u) 10 = true := gix_nI (by omega) (by omega)
    simp (disch := omega) only [hg, ↓reduceIte, nI_clamp]
    have : w = 0 ∨ w = 1 ∨ w = 2 ∨ w = 3 := by omega
    rcases this with rfl | rfl | rfl | rfl <;> rfl
  · have : w = 4 ∨ w = 5 ∨ w = 6 := by omega
    rcases this with rfl | rfl | rfl <;> rfl
/-- the changes, split -/
def ChgV (n d k : Nat) (U Wt : Nat → Nat) (A Bf : Nat → Int32) : Prop := d ≤ k ∧ k ≤ 40 ∧ ∀ i, i < k → okn n (Wt i) (U i) ∧ okv (Wt i) (A i) = true ∧ okv (Wt i) (Bf i) = true
def ChgC (σ : gS) (d k : Nat) (U Wt : Nat → Nat) (A Bf : Nat → Int32) : Prop := σ.1 31 4 = nI d ∧ σ.1 31 5 = nI k ∧ ∀ i, i < k → σ.1 32 i = nI (U i) ∧ σ.1 33 i = nI (Wt i) ∧ σ.1 34 i = A i ∧ σ.1 35 i = Bf i
def ChgM (σ : gS) (d k : Nat) (U Wt : Nat → Nat) (A Bf : Nat → Int32) : Prop := σ.1 59 5 = nI d ∧ σ.1 59 4 = nI k ∧ ∀ i, i < k → σ.1 61 i = nI (plc (Wt i) (U i)) ∧ σ.1 62 i = A i ∧ σ.1 63 i = Bf i
theorem Chg.split {σ : gS} {n : Nat} (hn : n ≤ 10) (h : Chg σ n) : ∃ d k U Wt A Bf, ChgV n d k U Wt A Bf ∧ ChgC σ d k U Wt A Bf ∧ ChgM σ d k U Wt A Bf := by
  obtain ⟨d, k, h1, ⟨h2, h3, h4, h5⟩, h6⟩ := h
  have e : ∀ i, i < k → okn n (σ.1 33 i).toNatClampNeg (σ.1 32 i).toNatClampNeg ∧ okv (σ.1 33 i).toNatClampNeg (σ.1 34 i) = true ∧ okv (σ.1 33 i).toNatClampNeg (σ.1 35 i) = true ∧ σ.1 32 i = nI (σ.1 32 i).toNatClampNeg ∧ σ.1 33 i = nI (σ.1 33 i).toNatClampNeg ∧ σ.1 61 i = nI (plc (σ.1 33 i).toNatClampNeg (σ.1 32 i).toNatClampNeg) ∧ σ.1 62 i = σ.1 34 i ∧ σ.1 63 i = σ.1 35 i := by
    intro i hi
    obtain ⟨u, w, a1, a2, a3, a4, a5, a6, a7, a8⟩ := h6 i hi
    have hu : u < 1000 := by
      obtain ⟨b1, b2, b3⟩ := a1
      by_cases q : w < 4
      · have := b2 q
        omega
      · have := b3 (by omega)
        omega
    have hw := a1.1
    rw [a2, a3, nI_clamp (by omega), nI_clamp (by omega)]
    exact ⟨a1, a4, a5, rfl, rfl, a6, a7, a8⟩
  refine ⟨d, k, fun i => (σ.1 32 i).toNatClampNeg, fun i => (σ.1 33 i).toNatClampNeg, σ.1 34, σ.1 35, ⟨h1.1, h1.2, fun i hi => ?_⟩, ⟨h2, h3, fun i hi => ?_⟩, h4, h5, fun i hi => ?_⟩
  · obtain ⟨a1, a2, a3, -⟩ := e i hi
    exact ⟨a1, a2, a3⟩
  · obtain ⟨a1, a2, a3, a4, a5, -⟩ := e i hi
    exact ⟨a4, a5, rfl, rfl⟩
  · obtain ⟨a1, a2, a3, a4, a5, a6, a7, a8⟩ := e i hi
    exact ⟨a6, a7, a8⟩
theorem Chg.join {σ : gS} {n d k : Nat} {U Wt : Nat → Nat} {A Bf : Nat → Int32} (hV : ChgV n d k U Wt A Bf) (hC : ChgC σ d k U Wt A Bf) (hM : ChgM σ d k U Wt A Bf) : Chg σ n := by
  refine ⟨d, k, ⟨hV.1, hV.2.1⟩, ⟨hC.1, hC.2.1, hM.1, hM.2.1⟩, fun i hi => ?_⟩
  obtain ⟨a1, a2, a3⟩ := hV.2.2 i hi
  obtain ⟨b1, b2, b3, b4⟩ := hC.2.2 i hi
  obtain ⟨c1, c2, c3⟩ := hM.2.2 i hi
  exact ⟨U i, Wt i, a1, b1, b2, by rw [b3]; exact a2, by rw [b4]; exact a3, c1, c2.trans b3.symm, c3.trans b4.symm⟩
theorem ChgM.hi {T : List Nat} {σ τ : gS} (hF : Fr (inC T) σ τ) {d k : Nat} {U Wt : Nat → Nat} {A Bf : Nat → Int32} (h : ChgM σ d k U Wt A Bf) : ChgM τ d k U Wt A Bf := by
  unfold ChgM at h ⊢
  simp only [FrC_hi hF (show 59 ≤ 59 by decide), FrC_hi hF (show 59 ≤ 61 by decide), FrC_hi hF (show 59 ≤ 62 by decide), FrC_hi hF (show 59 ≤ 63 by decide)]
  exact h
theorem ChgC.lo {T : List Nat} {σ τ : gS} (hF : Fr (inM T) σ τ) {d k : Nat} {U Wt : Nat → Nat} {A Bf : Nat → Int32} (h : ChgC σ d k U Wt A Bf) : ChgC τ d k U Wt A Bf := by
  unfold ChgC at h ⊢
  simp only [FrM_lo hF (show 31 < 59 by decide), FrM_lo hF (show 32 < 59 by decide), FrM_lo hF (show 33 < 59 by decide), FrM_lo hF (show 34 < 59 by decide), FrM_lo hF (show 35 < 59 by decide)]
  exact h
/-- one more change -/
def pushd (d : Nat) : Nat := if d < 40 then d + 1 else 40
def pushf {α : Type} (d : Nat) (f : Nat → α) (x : α) : Nat → α := if d < 40 then fun i => if i = d then x else f i else fun i => if i = 39 then x else f (i + 1)
theorem ChgV.push {n d k : Nat} {U Wt : Nat → Nat} {A Bf : Nat → Int32} (h : ChgV n d k U Wt A Bf) {w u : Nat} {x y : Int32} (hk : okn n w u) (hx : okv w x = true) (hy : okv w y = true) : ChgV n (pushd d) (pushd d) (pushf d U u) (pushf d Wt w) (pushf d A x) (pushf d Bf y) := by
  obtain ⟨h1, h2, h3⟩ := h
  unfold pushd pushf
  by_cases hd : d < 40
  · simp only [hd, ↓reduceIte]
    refine ⟨Nat.le_refl _, by omega, fun i hi => ?_⟩
    by_cases e : i = d
    · simp only [e, ↓reduceIte]
      exact ⟨hk, hx, hy⟩
    · simp only [e, ↓reduceIte]
      exact h3 i (by omega)
  · simp only [hd, ↓reduceIte]
    refine ⟨Nat.le_refl _, Nat.le_refl _, fun i hi => ?_⟩
    by_cases e : i = 39
    · simp only [e, ↓reduceIte]
      exact ⟨hk, hx, hy⟩
    · simp only [e, ↓reduceIte]
      exact h3 (i + 1) (by omega)
theorem add_eq {σ : gS} {d k : Nat} {U Wt : Nat → Nat} {A Bf : Nat → Int32} (hdk : d ≤ k) (hk : k ≤ 40) (h : ChgC σ d k U Wt A Bf) (u w : Nat) (x y : Int32) : ∃ τ, f_Ch_add (nI u) (nI w) x y σ = some τ ∧ ChgC τ (pushd d) (pushd d) (pushf d U u) (pushf d Wt w) (pushf d A x) (pushf d Bf y) ∧ Fr (inC [4]) σ τ := by
  obtain ⟨h1, h2, h3⟩ := h
  unfold f_Ch_add
  by_cases hd : d < 40
  · refine ⟨gpi (gpi (gpi (gpi (gpi (gpi σ 32 d (nI u)) 33 d (nI w)) 34 d x) 35 d y) 31 4 (nI (d + 1))) 31 5 (nI (d + 1)), ?_, ⟨?_, ?_, fun i hi => ?_⟩, ((((((Fr.rf _ σ).pi rfl).pi rfl).pi rfl).pi rfl).pi rfl).pi rfl⟩
    · unfold f_Ch_add_j13
      simp (disch := omega) only [gupE, gltE, gllE, litE, litLE, bindE, ↓reduceIte, gsi_at, gsi_l2, gsl_at, gsl_i1, upd_at, updL_at, Nat.reduceEqDiff, gix_nI, nI_clamp, bI_0, bI_gzb, Bool.true_eq_false, Bool.false_eq_true, h1, nI_ltI, hd, nI_add]
    · simp only [gsi_at, upd_at, Nat.reduceEqDiff, ↓reduceIte, pushd, hd]
    · simp only [gsi_at, upd_at, Nat.reduceEqDiff, ↓reduceIte, pushd, hd]
    · simp only [gsi_at, upd_at, Nat.reduceEqDiff, ↓reduceIte, pushd, pushf, hd] at hi ⊢
      by_cases e : i = d
      · simp only [e, ↓reduceIte, and_self]
      · simp only [e, ↓reduceIte]
        exact h3 i (by omega)
  · have e : d = 40 := by omega
    have ek : k = 40 := by omega
    subst e
    subst ek
    have hg : gcpy (nI 1) (nI 0) (nI 39) 40 40 = true := by decide
    have hcl1 : (nI 1).toNatClampNeg = 1 := by decide
    have hcl0 : (nI 0).toNatClampNeg = 0 := by decide
    have hcl39 : (nI 39).toNatClampNeg = 39 := by decide
    obtain ⟨τ, hτ, e31, e32, e33, e34, e35, hF⟩ : ∃ τ, f_Ch_dropOldest σ = some τ ∧ τ.1 31 4 = nI 39 ∧ (∀ i, τ.1 32 i = va_cpy (σ.1 32) (σ.1 32) 1 0 39 i) ∧ (∀ i, τ.1 33 i = va_cpy (σ.1 33) (σ.1 33) 1 0 39 i) ∧ (∀ i, τ.1 34 i = va_cpy (σ.1 34) (σ.1 34) 1 0 39 i) ∧ (∀ i, τ.1 35 i = va_cpy (σ.1 35) (σ.1 35) 1 0 39 i) ∧ Fr (inC [4]) σ τ := by
      have q1 : ∀ i, inC [4] 32 i = true := fun i => rfl
      have q2 : ∀ i, inC [4] 33 i = true := fun i => rfl
      have q3 : ∀ i, inC [4] 34 i = true := fun i => rfl
      have q4 : ∀ i, inC [4] 35 i = true := fun i => rfl
      refine ⟨gsi (gsi (gsi (gsi (gpi σ 31 4 (nI 39)) 32 (va_cpy (σ.1 32) (σ.1 32) 1 0 39)) 33 (va_cpy (σ.1 33) (σ.1 33) 1 0 39)) 34 (va_cpy (σ.1 34) (σ.1 34) 1 0 39)) 35 (va_cpy (σ.1 35) (σ.1 35) 1 0 39), ?_, ?_, fun i => ?_, fun i => ?_, fun i => ?_, fun i => ?_, (((((Fr.rf _ σ).pi rfl).si q1).si q2).si q3).si q4⟩
      · unfold f_Ch_dropOldest
        simp (disch := omega) only [gupE, gltE, gllE, litE, litLE, bindE, ↓reduceIte, gsi_at, gsi_l2, gsl_at, gsl_i1, upd_at, updL_at, Nat.reduceEqDiff, gix_nI, nI_clamp, bI_0, bI_gzb, Bool.true_eq_false, Bool.false_eq_true, hg, hcl1, hcl0, hcl39]
        rfl
      · simp only [gsi_at, upd_at, Nat.reduceEqDiff, ↓reduceIte]
      · simp only [gsi_at, upd_at, Nat.reduceEqDiff, ↓reduceIte]
      · simp only [gsi_at, upd_at, Nat.reduceEqDiff, ↓reduceIte]
      · simp only [gsi_at, upd_at, Nat.reduceEqDiff, ↓reduceIte]
      · simp only [gsi_at, upd_at, Nat.reduceEqDiff, ↓reduceIte]
    refine ⟨gpi (gpi (gpi (gpi (gpi (gpi τ 32 39 (nI u)) 33 39 (nI w)) 34 39 x) 35 39 y) 31 4 (nI 40)) 31 5 (nI 40), ?_, ⟨?_, ?_, fun i hi => ?_⟩, ((((((hF).pi rfl).pi rfl).pi rfl).pi rfl).pi rfl).pi rfl⟩
    · rw [hτ]
      unfold f_Ch_add_j13
      simp (disch := omega) only [gupE, gltE, gllE, litE, litLE, bindE, ↓reduceIte, gsi_at, gsi_l2, gsl_at, gsl_i1, upd_at, updL_at, Nat.reduceEqDiff, gix_nI, nI_clamp, bI_0, bI_gzb, Bool.true_eq_false, Bool.false_eq_true, h1, e31, nI_ltI, hd, nI_add]
    · simp only [gsi_at, upd_at, Nat.reduceEqDiff, ↓reduceIte, pushd, hd]
    · simp only [gsi_at, upd_at, Nat.reduceEqDiff, ↓reduceIte, pushd, hd]
    · simp only [gsi_at, upd_at, Nat.reduceEqDiff, ↓reduceIte, pushd, pushf, hd] at hi ⊢
      by_cases e : i = 39
      · simp only [e, ↓reduceIte, and_self]
      · simp only [e, ↓reduceIte, e32, e33, e34, e35]
        have hin : 0 ≤ i ∧ i < 0 + 39 := by omega
        simp only [va_cpy, hin, and_self, ↓reduceIte, Nat.sub_zero, Nat.add_comm 1 i]
        exact h3 (i + 1) (by omega)
