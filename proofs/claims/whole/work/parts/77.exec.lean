/-! pure: the law's code at work -/
def Ex (A B : Nat → Int32) (m m' : Nat) (V : (Nat → Int32) → Int32) : Prop := m ≤ m' ∧ ∀ (τ : gS) (h L fu : Nat), (∀ k, m ≤ k → k < m' → τ.1 7 k = A k ∧ τ.1 8 k = B k) → τ.1 6 4 = nI L → m' ≤ L → L ≤ 128 → τ.1 6 3 = nI h → h ≤ m → ∃ τ', f_Law_value_L7 (fu + (m' - m)) (nI m) τ = f_Law_value_L7 fu (nI m') τ' ∧ τ'.1 6 3 = nI (h + 1) ∧ τ'.1 9 h = V (τ.1 10) ∧ (∀ j, j < h → τ'.1 9 j = τ.1 9 j) ∧ Fr cV τ τ'
theorem Ex.cg {A B A' B' : Nat → Int32} {m m' : Nat} {V : (Nat → Int32) → Int32} (h : Ex A B m m' V) (hA : ∀ k, m ≤ k → k < m' → A' k = A k ∧ B' k = B k) : Ex A' B' m m' V :=
  ⟨h.1, fun τ x L fu h1 => h.2 τ x L fu fun k k1 k2 => ⟨(h1 k k1 k2).1.trans (hA k k1 k2).1, (h1 k k1 k2).2.trans (hA k k1 k2).2⟩⟩
theorem Lpush {h : Nat} {σ : gS} (x : Int32) (hh : h < 128) (h3 : σ.1 6 3 = nI h) : f_Law_push x σ = some (gpi (gpi σ 9 h x) 6 3 (nI (h + 1))) := by
  unfold f_Law_push
  simp only [litE]
  have e1 : (gpi σ 9 h x).1 6 3 = nI h := h3
  rw [h3, if_neg (nI_ge hh (by omega)), if_pos (gix_nI hh (by decide)), nI_clamp (by omega), gupE, e1, gupE, nI_add]
theorem Lpop {h : Nat} {σ : gS} (hh : h < 128) (h3 : σ.1 6 3 = nI (h + 1)) : f_Law_pop σ = some (σ.1 9 h, gpi σ 6 3 (nI h)) := by
  unfold f_Law_pop
  simp only [litE]
  have e1 : (gpi σ 6 3 (nI h)).1 6 3 = nI h := rfl
  rw [h3, if_pos (show nI 0 < nI (h + 1) by rw [nI_ltI (by omega) (by omega)]; omega), pk_sub (by omega), Nat.add_sub_cancel, gupE, e1, if_pos (gix_nI hh (by decide)), nI_clamp (by omega)]
  rfl
theorem Lstep {m L fu : Nat} {τ : gS} {a b : Int32} (h7 : τ.1 7 m = a) (h8 : τ.1 8 m = b) (h4 : τ.1 6 4 = nI L) (hm : m < L) (hL : L ≤ 128) (Q : Option (Int32 × gS))
    (hQ : (if a = nI 1 then (f_Law_push b τ).bind fun s9 => f_Law_value_L7 fu (nI m + nI 1) s9 else if a = nI 2 then (f_T_within b (nI 6)).bind fun q11 => if q11 = nI 0 then f_Law_value_j104 (fun v2 σ => f_Law_value_L7 fu v2 σ) (nI m) (nI 0) τ else if gix b 6 then f_Law_value_j104 (fun v2 σ => f_Law_value_L7 fu v2 σ) (nI m) (τ.1 10 b.toNatClampNeg) τ else none else if a = nI 3 then (f_Law_pop τ).bind fun q16 => if q16.1 = nI 0 then f_Law_value_j123 (fun v2 σ => f_Law_value_L7 fu v2 σ) (nI m) (nI 1) q16.2 else f_Law_value_j123 (fun v2 σ => f_Law_value_L7 fu v2 σ) (nI m) (nI 0) q16.2 else if a = nI 4 then (f_Law_pop τ).bind fun q20 => (f_Law_push (-q20.1) q20.2).bind fun s21 => f_Law_value_L7 fu (nI m + nI 1) s21 else if a = nI 5 then (f_Law_pop τ).bind fun q23 => if q23.1 = nI 0 then f_Law_value_j158 (fun v2 σ => f_Law_value_L7 fu v2 σ) (gmax (nI m) b) q23.2 else f_Law_value_j158 (fun v2 σ => f_Law_value_L7 fu v2 σ) (nI m) q23.2 else if a = nI 6 then (f_Law_pop τ).bind fun q26 => some (q26.1, q26.2) else (f_Law_pop τ).bind fun q27 => (f_Law_pop q27.2).bind fun q28 => (f_Law_joined a q28.1 q27.1).bind fun q29 => (f_Law_push q29 q28.2).bind fun s30 => f_Law_value_L7 fu (nI m + nI 1) s30) = Q) : f_Law_value_L7 (fu + 1) (nI m) τ = Q := by
  rw [f_Law_value_L7]
  simp only [litE]
  rw [h4, if_neg (nI_ge hm (by omega)), if_neg (nI_ge (by omega) (by omega)), if_pos (gix_nI (by omega) (by decide)), gltE, nI_clamp (by omega), if_pos (gix_nI (by omega) (by decide)), gltE, h7, h8]
  exact hQ
theorem Ex_num {A B : Nat → Int32} {m : Nat} (hA : A m = nI 1) : Ex A B m (m + 1) fun _ => B m := by
  refine ⟨by omega, fun τ h L fu h1 h4 hL hL2 h3 hh => ?_⟩
  obtain ⟨e7, e8⟩ := h1 m (Nat.le_refl m) (by omega)
  rw [hA] at e7
  refine ⟨gpi (gpi τ 9 h (B m)) 6 3 (nI (h + 1)), ?_, rfl, ?_, fun j hj => ?_, ((Fr.rf cV τ).pi rfl).pi rfl⟩
  · rw [show m + 1 - m = 1 by omega]
    refine Lstep e7 e8 h4 (by omega) hL2 _ ?_
    rw [if_pos rfl, Lpush (B m) (by omega) h3, bindE, nI_add]
  · show (gpi τ 9 h (B m)).1 9 h = _
    rw [gpi_at, if_pos ⟨rfl, rfl⟩]
  · show (gpi τ 9 h (B m)).1 9 j = _
    rw [gpi_at, if_neg (by omega)]
theorem Ex_name {A B : Nat → Int32} {m c : Nat} (hA : A m = nI 2) (hB : B m = nI c) (hc : c < 6) : Ex A B m (m + 1) fun f => f c := by
  refine ⟨by omega, fun τ h L fu h1 h4 hL hL2 h3 hh => ?_⟩
  obtain ⟨e7, e8⟩ := h1 m (Nat.le_refl m) (by omega)
  rw [hA] at e7
  rw [hB] at e8
  have hb : inb (nI c) 6 = true := by
    rw [inb_nI (by omega)]
    exact decide_eq_true hc
  refine ⟨gpi (gpi τ 9 h (τ.1 10 c)) 6 3 (nI (h + 1)), ?_, rfl, ?_, fun j hj => ?_, ((Fr.rf cV τ).pi rfl).pi rfl⟩
  · rw [show m + 1 - m = 1 by omega]
    refine Lstep e7 e8 h4 (by omega) hL2 _ ?_
    rw [if_neg (show ¬ nI 2 = nI 1 by decide), if_pos rfl, within_eq _ (by decide), hb, bindE, if_neg (show ¬ bI true = nI 0 by decide), if_pos (gix_nI hc (by decide)), nI_clamp (by omega)]
    unfold f_Law_value_j104
    simp only [litE]
    rw [Lpush _ (by omega) h3, bindE, nI_add]
  · show (gpi τ 9 h (τ.1 10 c)).1 9 h = _
    rw [gpi_at, if_pos ⟨rfl, rfl⟩]
  · show (gpi τ 9 h (τ.1 10 c)).1 9 j = _
    rw [gpi_at, if_neg (by omega)]
theorem Ex_not {A B : Nat → Int32} {m m' : Nat} {V : (Nat → Int32) → Int32} (hV : Ex A B m m' V) (hA : A m' = nI 3) : Ex A B m (m' + 1) fun f => if V f = nI 0 then nI 1 else nI 0 := by
  obtain ⟨hmm, hV⟩ := hV
  refine ⟨by omega, fun τ h L fu h1 h4 hL hL2 h3 hh => ?_⟩
  obtain ⟨e7, e8⟩ := h1 m' hmm (by omega)
  rw [hA] at e7
  obtain ⟨τ1, a1, a2, a3, a4, a5⟩ := hV τ h L (fu + 1) (fun k k1 k2 => h1 k k1 (by omega)) h4 (by omega) hL2 h3 hh
  refine ⟨gpi (gpi (gpi τ1 6 3 (nI h)) 9 h (if V (τ.1 10) = nI 0 then nI 1 else nI 0)) 6 3 (nI (h + 1)), ?_, rfl, ?_, fun j hj => ?_, ((a5.pi rfl).pi rfl).pi rfl⟩
  · rw [show fu + (m' + 1 - m) = fu + 1 + (m' - m) by omega, a1]
    refine Lstep ((a5.1 7 m' rfl).trans e7) ((a5.1 8 m' rfl).trans e8) ((a5.1 6 4 rfl).trans h4) (by omega) hL2 _ ?_
    rw [if_neg (show ¬ nI 3 = nI 1 by decide), if_neg (show ¬ nI 3 = nI 2 by decide), if_pos rfl, Lpop (by omega) a2, bindE, a3]
    unfold f_Law_value_j123
    simp only [litE]
    rw [Lpush (h := h) _ (by omega) rfl, Lpush (h := h) _ (by omega) rfl, nI_add]
    split <;> rfl
  · show (gpi (gpi τ1 6 3 (nI h)) 9 h (if V (τ.1 10) = nI 0 then nI 1 else nI 0)).1 9 h = _
    rw [gpi_at, if_pos ⟨rfl, rfl⟩]
  · show (gpi (gpi τ1 6 3 (nI h)) 9 h (if V (τ.1 10) = nI 0 then nI 1 else nI 0)).1 9 j = _
    rw [gpi_at, if_neg (by omega)]
    exact a4 j hj
theorem Ex_neg {A B : Nat → Int32} {m m' : Nat} {V : (Nat → Int32) → Int32} (hV : Ex A B m m' V) (hA : A m' = nI 4) : Ex A B m (m' + 1) fun f => -V f := by
  obtain ⟨hmm, hV⟩ := hV
  refine ⟨by omega, fun τ h L fu h1 h4 hL hL2 h3 hh => ?_⟩
  obtain ⟨e7, e8⟩ := h1 m' hmm (by omega)
  rw [hA] at e7
  obtain ⟨τ1, a1, a2, a3, a4, a5⟩ := hV τ h L (fu + 1) (fun k k1 k2 => h1 k k1 (by omega)) h4 (by omega) hL2 h3 hh
  refine ⟨gpi (gpi (gpi τ1 6 3 (nI h)) 9 h (-V (τ.1 10))) 6 3 (nI (h + 1)), ?_, rfl, ?_, fun j hj => ?_, ((a5.pi rfl).pi rfl).pi rfl⟩
  · rw [show fu + (m' + 1 - m) = fu + 1 + (m' - m) by omega, a1]
    refine Lstep ((a5.1 7 m' rfl).trans e7) ((a5.1 8 m' rfl).trans e8) ((a5.1 6 4 rfl).trans h4) (by omega) hL2 _ ?_
    rw [if_neg (show ¬ nI 4 = nI 1 by decide), if_neg (show ¬ nI 4 = nI 2 by decide), if_neg (show ¬ nI 4 = nI 3 by decide), if_pos rfl, Lpop (by omega) a2, bindE, a3, Lpush (h := h) _ (by omega) rfl, bindE, nI_add]
  · show (gpi (gpi τ1 6 3 (nI h)) 9 h (-V (τ.1 10))).1 9 h = _
    rw [gpi_at, if_pos ⟨rfl, rfl⟩]
  · show (gpi (gpi τ1 6 3 (nI h)) 9 h (-V (τ.1 10))).1 9 j = _
    rw [gpi_at, if_neg (by omega)]
    exact a4 j hj
/-- two values joined -/
def jn (c a b : Int32) : Int32 := (f_Law_joined c a b).getD 0
theorem jn_eq (c a b : Int32) : f_Law_joined c a b = some (jn c a b) := by
  unfold jn
  have : (f_Law_joined c a b).isSome = true := by
    unfold f_Law_joined f_Law_joined_j100
    repeat' split
    all_goals first | rfl | contradiction
  obtain ⟨x, e⟩ := Option.isSome_iff_exists.mp this
  rw [e]
  rfl
theorem Ex_bin {A B : Nat → Int32} {m m1 m2 c : Nat} {V V2 : (Nat → Int32) → Int32} (hV : Ex A B m m1 V) (hV2 : Ex A B m1 m2 V2) (h01 : m < m1) (hA : A m2 = nI c) (hc : 6 < c ∧ c < 256) : Ex A B m (m2 + 1) fun f => jn (nI c) (V f) (V2 f) := by
  obtain ⟨hmm, hV⟩ := hV
  obtain ⟨hmm2, hV2⟩ := hV2
  refine ⟨by omega, fun τ h L fu h1 h4 hL hL2 h3 hh => ?_⟩
  obtain ⟨e7, e8⟩ := h1 m2 (by omega) (by omega)
  rw [hA] at e7
  obtain ⟨τ1, a1, a2, a3, a4, a5⟩ := hV τ h L (fu + 1 + (m2 - m1)) (fun k k1 k2 => h1 k k1 (by omega)) h4 (by omega) hL2 h3 hh
  obtain ⟨τ2, b1, b2, b3, b4, b5⟩ := hV2 τ1 (h + 1) L (fu + 1) (fun k k1 k2 => ⟨(a5.1 7 k rfl).trans (h1 k (by omega) (by omega)).1, (a5.1 8 k rfl).trans (h1 k (by omega) (by omega)).2⟩) ((a5.1 6 4 rfl).trans h4) (by omega) hL2 a2 (by omega)
  have e10 : τ1.1 10 = τ.1 10 := by
    funext k
    exact a5.1 10 k rfl
  have hF := a5.tr b5
  refine ⟨gpi (gpi (gpi (gpi τ2 6 3 (nI (h + 1))) 6 3 (nI h)) 9 h (jn (nI c) (V (τ.1 10)) (V2 (τ.1 10)))) 6 3 (nI (h + 1)), ?_, rfl, ?_, fun j hj => ?_, (((hF.pi rfl).pi rfl).pi rfl).pi rfl⟩
  · rw [show fu + (m2 + 1 - m) = fu + 1 + (m2 - m1) + (m1 - m) by omega, a1, b1]
    refine Lstep ((hF.1 7 m2 rfl).trans e7) ((hF.1 8 m2 rfl).trans e8) ((hF.1 6 4 rfl).trans h4) (by omega) hL2 _ ?_
    have ne : ∀ k, k < 7 → ¬ nI c = nI k := fun k hk => by
      rw [nI_eq (by omega) (by omega)]
      omega
    have p2 : (gpi τ2 6 3 (nI (h + 1))).1 9 h = V (τ.1 10) := (b4 h (by omega)).trans a3
    rw [if_neg (ne 1 (by omega)), if_neg (ne 2 (by omega)), if_neg (ne 3 (by omega)), if_neg (ne 4 (by omega)), if_neg (ne 5 (by omega)), if_neg (ne 6 (by omega)), Lpop (h := h + 1) (by omega) b2, bindE]
    simp only
    rw [Lpop (h := h) (by omega) rfl, bindE]
    simp only
    rw [jn_eq, bindE, b3, p2, e10, Lpush (h := h) _ (by omega) rfl, bindE, nI_add]
  · show (gpi (gpi (gpi τ2 6 3 (nI (h + 1))) 6 3 (nI h)) 9 h (jn (nI c) (V (τ.1 10)) (V2 (τ.1 10)))).1 9 h = _
    rw [gpi_at, if_pos ⟨rfl, rfl⟩]
  · show (gpi (gpi (gpi τ2 6 3 (nI (h + 1))) 6 3 (nI h)) 9 h (jn (nI c) (V (τ.1 10)) (V2 (τ.1 10)))).1 9 j = _
    rw [gpi_at, if_neg (by omega)]
    exact (b4 j (by omega)).trans (a4 j hj)
