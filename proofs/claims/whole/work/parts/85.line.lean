/-! pure: a line of the law's text -/
def LEx (A B : Nat → Int32) (m m' : Nat) (D : (Nat → Int32) → Option Int32) : Prop := m ≤ m' ∧ ∀ (τ : gS) (L fu : Nat), (∀ k, m ≤ k → k < m' → τ.1 7 k = A k ∧ τ.1 8 k = B k) → τ.1 6 4 = nI L → m' ≤ L → L ≤ 128 → τ.1 6 3 = nI 0 → ∃ τ', Fr cV τ τ' ∧ (D (τ.1 10) = none → ∃ fu', fu ≤ fu' ∧ f_Law_value_L7 (fu + (m' - m)) (nI m) τ = f_Law_value_L7 fu' (nI m') τ' ∧ τ'.1 6 3 = nI 0) ∧ (∀ x, D (τ.1 10) = some x → f_Law_value_L7 (fu + (m' - m)) (nI m) τ = some (x, τ'))
theorem LEx.cg {A B A' B' : Nat → Int32} {m m' : Nat} {D : (Nat → Int32) → Option Int32} (h : LEx A B m m' D) (hA : ∀ k, m ≤ k → k < m' → A' k = A k ∧ B' k = B k) : LEx A' B' m m' D :=
  ⟨h.1, fun τ L fu h1 => h.2 τ L fu fun k k1 k2 => ⟨(h1 k k1 k2).1.trans (hA k k1 k2).1, (h1 k k1 k2).2.trans (hA k k1 k2).2⟩⟩
theorem Lend {m L fu : Nat} {τ : gS} {V : Int32} {b : Int32} (h7 : τ.1 7 m = nI 6) (h8 : τ.1 8 m = b) (h4 : τ.1 6 4 = nI L) (hm : m < L) (hL : L ≤ 128) (h3 : τ.1 6 3 = nI 1) (h9 : τ.1 9 0 = V) : f_Law_value_L7 (fu + 1) (nI m) τ = some (V, gpi τ 6 3 (nI 0)) := by
  refine Lstep h7 h8 h4 hm hL _ ?_
  rw [if_neg (show ¬ nI 6 = nI 1 by decide), if_neg (show ¬ nI 6 = nI 2 by decide), if_neg (show ¬ nI 6 = nI 3 by decide), if_neg (show ¬ nI 6 = nI 4 by decide), if_neg (show ¬ nI 6 = nI 5 by decide), if_pos rfl, Lpop (h := 0) (by decide) h3, bindE, h9]
/-- a line that always says something -/
theorem LEx_say {A B : Nat → Int32} {m m1 : Nat} {V : (Nat → Int32) → Int32} (hV : Ex A B m m1 V) (hA : A m1 = nI 6) : LEx A B m (m1 + 1) fun f => some (V f) := by
  obtain ⟨hmm, hV⟩ := hV
  refine ⟨by omega, fun τ L fu h1 h4 hL hL2 h3 => ?_⟩
  obtain ⟨e7, e8⟩ := h1 m1 hmm (by omega)
  obtain ⟨τ1, a1, a2, a3, a4, a5⟩ := hV τ 0 L (fu + 1) (fun k k1 k2 => h1 k k1 (by omega)) h4 (by omega) hL2 h3 (Nat.zero_le _)
  refine ⟨gpi τ1 6 3 (nI 0), a5.pi rfl, fun z => (by cases z), fun x hx => ?_⟩
  have hx : V (τ.1 10) = x := Option.some.inj hx
  rw [show fu + (m1 + 1 - m) = fu + 1 + (m1 - m) by omega, a1, Lend (((a5.1 7 m1 rfl).trans e7).trans hA) rfl ((a5.1 6 4 rfl).trans h4) (by omega) hL2 a2 a3, hx]
/-- a line that says something when its first part holds -/
theorem LEx_when {A B : Nat → Int32} {m m1 m2 : Nat} {V V2 : (Nat → Int32) → Int32} (hV : Ex A B m m1 V) (hA : A m1 = nI 5) (hB : B m1 = nI m2) (hV2 : Ex A B (m1 + 1) m2 V2) (hA2 : A m2 = nI 6) : LEx A B m (m2 + 1) fun f => if V f = nI 0 then none else some (V2 f) := by
  obtain ⟨hmm, hV⟩ := hV
  obtain ⟨hmm2, hV2⟩ := hV2
  refine ⟨by omega, fun τ L fu h1 h4 hL hL2 h3 => ?_⟩
  obtain ⟨e7, e8⟩ := h1 m1 hmm (by omega)
  obtain ⟨f7, f8⟩ := h1 m2 (by omega) (by omega)
  obtain ⟨τ1, a1, a2, a3, a4, a5⟩ := hV τ 0 L (fu + 1 + (m2 - (m1 + 1)) + 1) (fun k k1 k2 => h1 k k1 (by omega)) h4 (by omega) hL2 h3 (Nat.zero_le _)
  have hlen : fu + (m2 + 1 - m) = fu + 1 + (m2 - (m1 + 1)) + 1 + (m1 - m) := by omega
  have hjump : ∀ Q, (if V (τ.1 10) = nI 0 then f_Law_value_L7 (fu + 1 + (m2 - (m1 + 1))) (nI (m2 + 1)) (gpi τ1 6 3 (nI 0)) else f_Law_value_L7 (fu + 1 + (m2 - (m1 + 1))) (nI (m1 + 1)) (gpi τ1 6 3 (nI 0))) = Q → f_Law_value_L7 (fu + (m2 + 1 - m)) (nI m) τ = Q := by
    intro Q hQ
    rw [hlen, a1]
    refine Lstep (((a5.1 7 m1 rfl).trans e7).trans hA) (((a5.1 8 m1 rfl).trans e8).trans hB) ((a5.1 6 4 rfl).trans h4) (by omega) hL2 _ ?_
    rw [if_neg (show ¬ nI 5 = nI 1 by decide), if_neg (show ¬ nI 5 = nI 2 by decide), if_neg (show ¬ nI 5 = nI 3 by decide), if_neg (show ¬ nI 5 = nI 4 by decide), if_pos rfl, Lpop (h := 0) (by decide) a2, bindE, a3]
    have hg : gmax (nI m1) (nI m2) = nI m2 := by
      unfold gmax
      rw [if_pos (show nI m1 < nI m2 by rw [nI_ltI (by omega) (by omega)]; omega)]
    unfold f_Law_value_j158
    simp only [litE]
    rw [hg, nI_add, nI_add]
    exact hQ
  have hF : Fr cV τ (gpi τ1 6 3 (nI 0)) := a5.pi rfl
  have e10 : (gpi τ1 6 3 (nI 0)).1 10 = τ.1 10 := by
    funext k
    exact hF.1 10 k rfl
  by_cases z : V (τ.1 10) = nI 0
  · refine ⟨gpi τ1 6 3 (nI 0), hF, fun _ => ⟨fu + 1 + (m2 - (m1 + 1)), by omega, hjump _ (if_pos z), rfl⟩, fun x hx => ?_⟩
    have hx : (if V (τ.1 10) = nI 0 then none else some (V2 (τ.1 10))) = some x := hx
    rw [if_pos z] at hx
    cases hx
  · obtain ⟨τ2, b1, b2, b3, b4, b5⟩ := hV2 (gpi τ1 6 3 (nI 0)) 0 L (fu + 1) (fun k k1 k2 => ⟨(a5.1 7 k rfl).trans (h1 k (by omega) (by omega)).1, (a5.1 8 k rfl).trans (h1 k (by omega) (by omega)).2⟩) ((a5.1 6 4 rfl).trans h4) (by omega) hL2 rfl (Nat.zero_le _)
    have hF2 := hF.tr b5
    refine ⟨gpi τ2 6 3 (nI 0), hF2.pi rfl, fun w => ?_, fun x hx => ?_⟩
    · have w : (if V (τ.1 10) = nI 0 then none else some (V2 (τ.1 10))) = none := w
      rw [if_neg z] at w
      cases w
    · have hx : (if V (τ.1 10) = nI 0 then none else some (V2 (τ.1 10))) = some x := hx
      rw [if_neg z] at hx
      have hx := Option.some.inj hx
      refine hjump _ ?_
      rw [if_neg z, b1, Lend (((hF2.1 7 m2 rfl).trans f7).trans hA2) rfl ((hF2.1 6 4 rfl).trans h4) (by omega) hL2 b2 b3, e10, hx]
theorem LEx.seq {A B : Nat → Int32} {m m1 m2 : Nat} {D D2 : (Nat → Int32) → Option Int32} (h : LEx A B m m1 D) (h2 : LEx A B m1 m2 D2) : LEx A B m m2 fun f => (D f).orElse fun _ => D2 f := by
  obtain ⟨hm, h⟩ := h
  obtain ⟨hm2, h2⟩ := h2
  refine ⟨by omega, fun τ L fu h1 h4 hL hL2 h3 => ?_⟩
  obtain ⟨τ1, a1, a2, a3⟩ := h τ L (fu + (m2 - m1)) (fun k k1 k2 => h1 k k1 (by omega)) h4 (by omega) hL2 h3
  have hlen : fu + (m2 - m) = fu + (m2 - m1) + (m1 - m) := by omega
  rw [hlen]
  have e10 : τ1.1 10 = τ.1 10 := by
    funext k
    exact a1.1 10 k rfl
  cases hD : D (τ.1 10) with
  | some x =>
    refine ⟨τ1, a1, fun w => ?_, fun y hy => ?_⟩
    · have w : (D (τ.1 10)).orElse (fun _ => D2 (τ.1 10)) = none := w
      rw [hD] at w
      cases w
    · have hy : (D (τ.1 10)).orElse (fun _ => D2 (τ.1 10)) = some y := hy
      rw [hD] at hy
      have hy : some x = some y := hy
      rw [a3 x hD, Option.some.inj hy]
  | none =>
    obtain ⟨fu', b1, b2, b3⟩ := a2 hD
    obtain ⟨τ2, c1, c2, c3⟩ := h2 τ1 L (fu' - (m2 - m1)) (fun k k1 k2 => ⟨(a1.1 7 k rfl).trans (h1 k (by omega) k2).1, (a1.1 8 k rfl).trans (h1 k (by omega) k2).2⟩) ((a1.1 6 4 rfl).trans h4) (by omega) hL2 b3
    rw [show fu' - (m2 - m1) + (m2 - m1) = fu' by omega, e10] at c2 c3
    refine ⟨τ2, a1.tr c1, fun w => ?_, fun y hy => ?_⟩
    · have w : (D (τ.1 10)).orElse (fun _ => D2 (τ.1 10)) = none := w
      rw [hD] at w
      obtain ⟨f2, d1, d2, d3⟩ := c2 w
      exact ⟨f2, by omega, b2.trans d2, d3⟩
    · have hy : (D (τ.1 10)).orElse (fun _ => D2 (τ.1 10)) = some y := hy
      rw [hD] at hy
      exact b2.trans (c3 y hy)
