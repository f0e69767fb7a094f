/-! pure: the ranks of the law's text -/
def bt (len : Nat) (T : Nat → Nat) (i : Nat) : Nat := if i < len then T i else 0
theorem bt_lt {len i : Nat} {T : Nat → Nat} (hT : ∀ j, j < len → T j < 256) : bt len T i < 256 := by
  unfold bt
  split
  · exact hT _ (by assumption)
  · omega
theorem bt_eq {len i c : Nat} {T : Nat → Nat} (hc : 0 < c) : bt len T i = c ↔ (i < len ∧ T i = c) := by
  unfold bt
  split <;> constructor <;> intro h
  · exact ⟨by assumption, h⟩
  · exact h.2
  · omega
  · omega
theorem MbyteN {len i o : Nat} {T : Nat → Nat} {υ : gS} (hl : len ≤ 120) (h : MT len T υ i o) : f_M_byteAt υ = some (nI (bt len T i)) := by
  rw [Mbyte hl h.1 h.2.1.1 h.2.1.2]
  unfold bt
  split <;> rfl
theorem MbyteF {len k : Nat} {T : Nat → Nat} {υ : gS} (hl : len ≤ 120) (h : MF len T υ k) : ∃ b, f_M_byteAt υ = some b := by
  obtain ⟨i, h1, h2⟩ := h.2.1
  exact ⟨_, Mbyte hl h.1 h1 h2⟩
theorem rk4 (c : Nat) : rkN c = 4 ↔ c = 42 ∨ c = 47 ∨ c = 37 := by
  unfold rkN
  repeat' split
  all_goals omega
theorem rk3 (c : Nat) : rkN c = 3 ↔ c = 43 ∨ c = 45 := by
  unfold rkN
  repeat' split
  all_goals omega
theorem rk2 (c : Nat) : rkN c = 2 ↔ c = 60 ∨ c = 61 ∨ c = 62 := by
  unfold rkN
  repeat' split
  all_goals omega
theorem rk1 (c : Nat) : rkN c = 1 ↔ c = 38 := by
  unfold rkN
  repeat' split
  all_goals omega
theorem rk0 (c : Nat) : rkN c = 0 ↔ c = 124 := by
  unfold rkN
  repeat' split
  all_goals omega
theorem jn_mul (a b : Int32) : jn (nI 42) a b = a * b := rfl
theorem jn_add (a b : Int32) : jn (nI 43) a b = a + b := rfl
theorem jn_sub (a b : Int32) : jn (nI 45) a b = a - b := rfl
theorem jn_div (a b : Int32) : jn (nI 47) a b = if b = nI 0 then nI 0 else a / b := by
  show (if b = 0 then some (0 : Int32) else if b = 0 then none else some (a / b)).getD 0 = _
  by_cases q : b = 0
  · rw [if_pos q, if_pos (show b = nI 0 from q)]
    rfl
  · rw [if_neg q, if_neg q, if_neg (show ¬ b = nI 0 from q)]
    rfl
theorem jn_mod (a b : Int32) : jn (nI 37) a b = if b = nI 0 then nI 0 else grem a b := by
  show (if b = 0 then some (0 : Int32) else if b = 0 then none else some (grem a b)).getD 0 = _
  by_cases q : b = 0
  · rw [if_pos q, if_pos (show b = nI 0 from q)]
    rfl
  · rw [if_neg q, if_neg q, if_neg (show ¬ b = nI 0 from q)]
    rfl
theorem jn_lt (a b : Int32) : jn (nI 60) a b = if b ≤ a then nI 0 else nI 1 := by
  show (if b ≤ a then some (0 : Int32) else some 1).getD 0 = _
  split <;> rfl
theorem jn_eqq (a b : Int32) : jn (nI 61) a b = if a = b then nI 1 else nI 0 := by
  show (if a = b then some (1 : Int32) else some 0).getD 0 = _
  split <;> rfl
theorem jn_gt (a b : Int32) : jn (nI 62) a b = if a ≤ b then nI 0 else nI 1 := by
  show (if a ≤ b then some (0 : Int32) else some 1).getD 0 = _
  split <;> rfl
theorem jn_and (a b : Int32) : jn (nI 38) a b = if a = nI 0 then nI 0 else if b = nI 0 then nI 0 else nI 1 := by
  show (if a = 0 then some (0 : Int32) else if b = 0 then some 0 else some 1).getD 0 = (if a = 0 then 0 else if b = 0 then 0 else 1)
  split
  · rfl
  · split <;> rfl
theorem jn_or (a b : Int32) : jn (nI 124) a b = if a = nI 0 then (if b = nI 0 then nI 0 else nI 1) else nI 1 := by
  show (if a = 0 then (if b = 0 then some (0 : Int32) else some 1) else some 1).getD 0 = (if a = 0 then (if b = 0 then 0 else 1) else 1)
  split
  · split <;> rfl
  · rfl
theorem Mpos14 {len i o : Nat} {T : Nat → Nat} {υ : gS} (h : MT len T υ i o) : ¬ nI 0 ≤ υ.1 59 14 := by
  rw [h.2.2.1]
  decide
theorem Mneg14 {len k : Nat} {T : Nat → Nat} {υ : gS} (hl : len ≤ 120) (h : MF len T υ k) : nI 0 ≤ υ.1 59 14 := by
  rw [h.2.2.2]
  exact m1_lt (by have := h.2.2.1; omega)
theorem nIne {a b : Nat} (ha : a < 1000) (hb : b < 1000) (h : a ≠ b) : ¬ nI a = nI b := by
  rw [nI_eq (by omega) (by omega)]
  exact h
theorem Tl4 {len o : Nat} {T : Nat → Nat} {kone : gS → Option (Int32 × gS)} (hl : len ≤ 120) (hT : ∀ j, j < len → T j < 256) : Tl len T 4 o kone (fun fu acc υ => (f_M_byteAt υ).bind fun b => f_M_product_L10 kone fu acc b υ) := by
  refine ⟨fun fu acc υ i hM hn => ?_, fun fu acc υ i hM hi hr => ?_, fun fu acc υ k hM => ?_⟩
  · have hb := bt_lt (i := i) hT
    have hne : ∀ c, c = 42 ∨ c = 47 ∨ c = 37 → bt len T i ≠ c := by
      intro c hc q
      obtain ⟨q1, q2⟩ := (bt_eq (by omega)).mp q
      exact hn ⟨q1, (rk4 _).mpr (by omega)⟩
    have h1 := hne 42 (by omega)
    have h2 := hne 47 (by omega)
    have h3 := hne 37 (by omega)
    show (f_M_byteAt υ).bind _ = _
    rw [MbyteN hl hM, bindE, f_M_product_L10]
    simp only [litE]
    rw [if_neg (Mpos14 hM), if_neg (nIne (by omega) (by decide) h1), if_neg (nIne (by omega) (by decide) h2), if_neg (nIne (by omega) (by decide) h3)]
  · have hb : bt len T i = T i := by
      unfold bt
      rw [if_pos hi]
    have hstep : (f_M_byteAt υ).bind (fun b => f_M_product_L10 kone (fu + 1) acc b υ) = f_M_product_j35 kone (fun v1 v2 σ => f_M_product_L10 kone fu v1 v2 σ) acc (nI (T i)) υ := by
      rw [MbyteN hl hM, bindE, hb, f_M_product_L10]
      simp only [litE]
      rw [if_neg (Mpos14 hM)]
      rcases (rk4 _).mp hr with e | e | e
      · rw [e, if_pos rfl]
      · rw [e, if_neg (show ¬ nI 47 = nI 42 by decide), if_pos rfl]
      · rw [e, if_neg (show ¬ nI 37 = nI 42 by decide), if_neg (show ¬ nI 37 = nI 47 by decide), if_pos rfl]
    show (f_M_byteAt υ).bind (fun b => f_M_product_L10 kone (fu + 1) acc b υ) = _
    rw [hstep]
    unfold f_M_product_j35
    simp only [litE]
    rw [gupE, hM.2.1.2, nI_add]
    cases kone (gpi υ 59 12 (nI (i + 1))) with
    | none => rfl
    | some q =>
      rw [bindE, bindE]
      rcases (rk4 _).mp hr with e | e | e
      · rw [e, if_pos rfl, jn_mul]
        rfl
      · rw [e, if_neg (show ¬ nI 47 = nI 42 by decide), jn_div]
        by_cases z : q.1 = nI 0
        · rw [if_pos z, if_pos z]
          rfl
        · rw [if_neg z, if_pos rfl, if_neg z, if_neg z]
          rfl
      · rw [e, if_neg (show ¬ nI 37 = nI 42 by decide), jn_mod]
        by_cases z : q.1 = nI 0
        · rw [if_pos z, if_pos z]
          rfl
        · rw [if_neg z, if_neg (show ¬ nI 37 = nI 47 by decide), if_neg z, if_neg z]
          rfl
  · obtain ⟨b, e⟩ := MbyteF hl hM
    show (f_M_byteAt υ).bind _ = _
    rw [e, bindE, f_M_product_L10]
    simp only [litE]
    rw [if_pos (Mneg14 hl hM)]
theorem Tl3 {len o : Nat} {T : Nat → Nat} {kone : gS → Option (Int32 × gS)} (hl : len ≤ 120) (hT : ∀ j, j < len → T j < 256) : Tl len T 3 o (fo_M_product kone) (fun fu acc υ => f_M_sums_L5 kone fu acc υ) := by
  refine ⟨fun fu acc υ i hM hn => ?_, fun fu acc υ i hM hi hr => ?_, fun fu acc υ k hM => ?_⟩
  · have hb := bt_lt (i := i) hT
    have hne : ∀ c, c = 43 ∨ c = 45 → bt len T i ≠ c := by
      intro c hc q
      obtain ⟨q1, q2⟩ := (bt_eq (by omega)).mp q
      exact hn ⟨q1, (rk3 _).mpr (by omega)⟩
    have h1 := hne 43 (by omega)
    have h2 := hne 45 (by omega)
    show f_M_sums_L5 kone (fu + 1) acc υ = _
    rw [f_M_sums_L5]
    simp only [litE]
    rw [if_neg (Mpos14 hM), MbyteN hl hM, bindE, if_neg (nIne (by omega) (by decide) h1), bindE, if_neg (nIne (by omega) (by decide) h2)]
  · have hb : bt len T i = T i := by
      unfold bt
      rw [if_pos hi]
    show f_M_sums_L5 kone (fu + 1) acc υ = _
    rw [f_M_sums_L5]
    simp only [litE]
    rw [if_neg (Mpos14 hM), MbyteN hl hM, bindE, hb]
    rcases (rk3 _).mp hr with e | e
    · rw [e, if_pos rfl]
      unfold f_M_sums_j30
      simp only [litE]
      rw [MbyteN hl hM, bindE, hb, e, if_pos rfl]
      unfold f_M_sums_j44
      simp only [litE]
      rw [gupE, hM.2.1.2, nI_add]
      cases fo_M_product kone (gpi υ 59 12 (nI (i + 1))) with
      | none => rfl
      | some q =>
        rw [bindE, bindE, if_neg (show ¬ nI 1 = nI 0 by decide), jn_add]
        rfl
    · rw [e, if_neg (show ¬ nI 45 = nI 43 by decide), bindE, if_pos rfl]
      unfold f_M_sums_j30
      simp only [litE]
      rw [MbyteN hl hM, bindE, hb, e, if_neg (show ¬ nI 45 = nI 43 by decide)]
      unfold f_M_sums_j44
      simp only [litE]
      rw [gupE, hM.2.1.2, nI_add]
      cases fo_M_product kone (gpi υ 59 12 (nI (i + 1))) with
      | none => rfl
      | some q =>
        rw [bindE, bindE, if_pos trivial, jn_sub]
        rfl
  · show f_M_sums_L5 kone (fu + 1) acc υ = _
    rw [f_M_sums_L5]
    simp only [litE]
    rw [if_pos (Mneg14 hl hM)]
theorem Tl1 {len o : Nat} {T : Nat → Nat} {kone : gS → Option (Int32 × gS)} (hl : len ≤ 120) (hT : ∀ j, j < len → T j < 256) : Tl len T 1 o (fo_M_compared kone) (fun fu acc υ => f_M_both_L5 kone fu acc υ) := by
  refine ⟨fun fu acc υ i hM hn => ?_, fun fu acc υ i hM hi hr => ?_, fun fu acc υ k hM => ?_⟩
  · show f_M_both_L5 kone (fu + 1) acc υ = _
    rw [f_M_both_L5]
    simp only [litE]
    rw [(Mtakes hl hT (by decide) hM).2 (fun z => hn ⟨z.1, (rk1 _).mpr z.2⟩), bindE, if_pos rfl]
  · show f_M_both_L5 kone (fu + 1) acc υ = _
    rw [f_M_both_L5]
    simp only [litE]
    have e := (rk1 _).mp hr
    rw [(Mtakes hl hT (by decide) hM).1 ⟨hi, e⟩, bindE, if_neg (show ¬ nI 1 = nI 0 by decide)]
    cases fo_M_compared kone (gpi υ 59 12 (nI (i + 1))) with
    | none => rfl
    | some q =>
      rw [bindE, bindE, e, jn_and]
      unfold f_M_both_j31 f_M_both_j32
      by_cases z : acc = nI 0
      · rw [if_pos z, if_pos z]
        rfl
      · rw [if_neg z, if_neg z]
        by_cases z2 : q.1 = nI 0
        · rw [if_pos z2, if_pos z2]
          rfl
        · rw [if_neg z2, if_neg z2]
  · show f_M_both_L5 kone (fu + 1) acc υ = _
    rw [f_M_both_L5, MtakesF _ hl hM, bindE, if_pos (show (nI 0, υ).1 = 0 from rfl)]
theorem Tl0 {len o : Nat} {T : Nat → Nat} {kone : gS → Option (Int32 × gS)} (hl : len ≤ 120) (hT : ∀ j, j < len → T j < 256) : Tl len T 0 o (fo_M_both kone) (fun fu acc υ => f_M_either_L5 kone fu acc υ) := by
  refine ⟨fun fu acc υ i hM hn => ?_, fun fu acc υ i hM hi hr => ?_, fun fu acc υ k hM => ?_⟩
  · show f_M_either_L5 kone (fu + 1) acc υ = _
    rw [f_M_either_L5]
    simp only [litE]
    rw [(Mtakes hl hT (by decide) hM).2 (fun z => hn ⟨z.1, (rk0 _).mpr z.2⟩), bindE, if_pos rfl]
  · show f_M_either_L5 kone (fu + 1) acc υ = _
    rw [f_M_either_L5]
    simp only [litE]
    have e := (rk0 _).mp hr
    rw [(Mtakes hl hT (by decide) hM).1 ⟨hi, e⟩, bindE, if_neg (show ¬ nI 1 = nI 0 by decide)]
    cases fo_M_both kone (gpi υ 59 12 (nI (i + 1))) with
    | none => rfl
    | some q =>
      rw [bindE, bindE, e, jn_or]
      unfold f_M_either_j27 f_M_either_j32
      by_cases z : acc = nI 0
      · rw [if_pos z, if_pos z]
        by_cases z2 : q.1 = nI 0
        · rw [if_pos z2, if_pos z2]
        · rw [if_neg z2, if_neg z2]
          rfl
      · rw [if_neg z, if_neg z]
        rfl
  · show f_M_either_L5 kone (fu + 1) acc υ = _
    rw [f_M_either_L5, MtakesF _ hl hM, bindE, if_pos (show (nI 0, υ).1 = 0 from rfl)]
