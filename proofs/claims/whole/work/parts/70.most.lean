/-! pure: pairs: the most -/
def clr (m a : Nat) : Nat := m &&& (2 ^ a ^^^ 4294967295)
theorem tb_clr {m a j : Nat} (hm : m < 1024) : (clr m a).testBit j = (m.testBit j && !decide (a = j)) := by
  unfold clr
  rw [Nat.testBit_and, Nat.testBit_xor, Nat.testBit_two_pow]
  by_cases hj : j < 32
  · rw [show 4294967295 = 2 ^ 32 - 1 from rfl, tb_full.mpr hj]
    cases m.testBit j <;> cases decide (a = j) <;> rfl
  · have : m.testBit j = false := Nat.testBit_lt_two_pow (Nat.lt_of_lt_of_le hm (Nat.pow_le_pow_right (by decide) (show 10 ≤ j by omega) : 2 ^ 10 ≤ 2 ^ j))
    rw [this]
    simp
theorem clr_le (m a : Nat) : clr m a ≤ m := Nat.and_le_left
theorem clr_lt {m a : Nat} (hm : m < 1024) (h : m.testBit a = true) : clr m a < m := by
  rcases Nat.lt_or_ge (clr m a) m with q | q
  · exact q
  · exfalso
    have e : clr m a = m := Nat.le_antisymm (clr_le m a) q
    have := tb_clr (a := a) (j := a) hm
    rw [e, h, decide_eq_true rfl] at this
    cases this
theorem nI_clr (m a : Nat) (ha : a < 32) : nI m &&& (nI 1 <<< (nI a &&& nI 31) ^^^ -nI 1) = nI (clr m a) := by
  rw [sh1 ha, nI_m1, nI_xor, nI_and]
  rfl
def cb (f : Nat → Bool) (k : Nat) : Nat := sm (fun j => if f j = true then 1 else 0) k
theorem cnt_cb (m : Nat) : ∀ k, cnt m k = cb (fun j => m.testBit j) k
  | 0 => rfl
  | k + 1 => by
    show cnt m k + (if m.testBit k = true then 1 else 0) = sm _ k + (if m.testBit k = true then 1 else 0)
    rw [cnt_cb m k]
    rfl
theorem cb_cg {f g : Nat → Bool} (k : Nat) (h : ∀ j, j < k → f j = g j) : cb f k = cb g k := sm_cg k fun j hj => by rw [h j hj]
/-- one taken out -/
theorem cb_out {f : Nat → Bool} {a k : Nat} (ha : a < k) (h : f a = true) : cb f k = cb (fun j => f j && !decide (a = j)) k + 1 := by
  have one : sm (fun j => if j = a then 1 else 0) k = 1 := by rw [sm_one, if_pos ha]
  rw [← one]
  unfold cb
  rw [← sm_add]
  refine sm_cg k fun j _ => ?_
  by_cases e : j = a
  · subst e
    rw [h]
    simp
  · have : ¬ a = j := fun q => e q.symm
    simp [e, this]
theorem cb_out_le {f : Nat → Bool} {a k : Nat} : cb f k ≤ cb (fun j => f j && !decide (a = j)) k + (if f a = true then 1 else 0) := by
  by_cases ha : a < k
  · by_cases h : f a = true
    · rw [if_pos h, cb_out ha h]
      exact Nat.le_refl _
    · rw [if_neg h, cb_cg (g := fun j => f j && !decide (a = j)) k fun j _ => ?_]
      · exact Nat.le_refl _
      · by_cases e : a = j
        · subst e
          have : f a = false := by cases q : f a <;> simp_all
          rw [this]
          rfl
        · simp [e]
  · rw [cb_cg (g := fun j => f j && !decide (a = j)) k fun j hj => ?_]
    · omega
    · have : ¬ a = j := by omega
      simp [this]
/-- the least bit -/
def lof (m : Nat) : Nat → Nat → Nat
  | i, 0 => i
  | i, k + 1 => if m.testBit i = true then i else lof m (i + 1) k
def Lo (m a : Nat) : Prop := m.testBit a = true ∧ ∀ j, j < a → m.testBit j = false
theorem lof_spec {m : Nat} : ∀ k i, (∀ j, j < i → m.testBit j = false) → (∃ j, j < i + k ∧ m.testBit j = true) → Lo m (lof m i k)
  | 0, i, h, ⟨j, h1, h2⟩ => by
    rw [h j (by omega)] at h2
    cases h2
  | k + 1, i, h, ⟨j, h1, h2⟩ => by
    show Lo m (if m.testBit i = true then i else lof m (i + 1) k)
    by_cases q : m.testBit i = true
    · rw [if_pos q]
      exact ⟨q, h⟩
    · rw [if_neg q]
      refine lof_spec k (i + 1) (fun l hl => ?_) ⟨j, by omega, h2⟩
      by_cases e : l = i
      · rw [e]
        cases z : m.testBit i with
        | false => rfl
        | true => exact absurd z q
      · exact h l (by omega)
theorem Lo.uq {m a b : Nat} (h : Lo m a) (h2 : Lo m b) : a = b := by
  rcases Nat.lt_or_ge a b with q | q
  · have := h2.2 a q
    rw [h.1] at this
    cases this
  · rcases Nat.lt_or_ge b a with q2 | q2
    · have := h.2 b q2
      rw [h2.1] at this
      cases this
    · omega
theorem Lo.ex {m : Nat} (hm : m < 1024) (h0 : m ≠ 0) : ∃ a, Lo m a ∧ a < 10 := by
  obtain ⟨j, hj⟩ := nz_iff.mp h0
  have j10 : j < 10 := by
    refine Classical.byContradiction fun q => ?_
    rw [Nat.testBit_lt_two_pow (Nat.lt_of_lt_of_le hm (Nat.pow_le_pow_right (by decide) (show 10 ≤ j by omega) : 2 ^ 10 ≤ 2 ^ j))] at hj
    cases hj
  have h := lof_spec 10 0 (fun l hl => absurd hl (Nat.not_lt_zero l)) ⟨j, by omega, hj⟩
  refine ⟨_, h, ?_⟩
  refine Classical.byContradiction fun q => ?_
  have := h.1
  rw [Nat.testBit_lt_two_pow (Nat.lt_of_lt_of_le hm (Nat.pow_le_pow_right (by decide) (show 10 ≤ lof m 0 10 by omega) : 2 ^ 10 ≤ 2 ^ lof m 0 10))] at this
  cases this
/-- the pairs of a with those of left below k -/
def pmx (s K : Nat → Nat) (W : Nat) (mm : Nat → Nat) (a left : Nat) : Nat → Nat
  | 0 => 0
  | k + 1 => if a < k ∧ left.testBit k = true ∧ agr s K W a k then max (pmx s K W mm a left k) (1 + mm (clr left k)) else pmx s K W mm a left k
def mmf (n : Nat) (s K : Nat → Nat) (W : Nat) : Nat → Nat → Nat
  | 0, _ => 0
  | f + 1, m => if m = 0 then 0 else max (mmf n s K W f (clr m (lof m 0 10))) (pmx s K W (mmf n s K W f) (lof m 0 10) (clr m (lof m 0 10)) n)
theorem pmx_cg {s K : Nat → Nat} {W : Nat} {mm mm2 : Nat → Nat} {a left : Nat} (h : ∀ b, left.testBit b = true → mm (clr left b) = mm2 (clr left b)) : ∀ k, pmx s K W mm a left k = pmx s K W mm2 a left k
  | 0 => rfl
  | k + 1 => by
    show (if a < k ∧ left.testBit k = true ∧ agr s K W a k then _ else _) = if a < k ∧ left.testBit k = true ∧ agr s K W a k then _ else _
    rw [pmx_cg h k]
    by_cases q : a < k ∧ left.testBit k = true ∧ agr s K W a k
    · rw [if_pos q, if_pos q, h k q.2.1]
    · rw [if_neg q, if_neg q]
theorem mmf_st {n : Nat} {s K : Nat → Nat} {W : Nat} : ∀ f m, m < 1024 → m < f → mmf n s K W f m = mmf n s K W (m + 1) m := by
  have main : ∀ N f g m, m < N → m < 1024 → m < f → m < g → mmf n s K W f m = mmf n s K W g m := by
    intro N
    induction N with
    | zero => intro f g m h; omega
    | succ N ih =>
      intro f g m hN hm hf hg
      obtain ⟨f, rfl⟩ : ∃ f', f = f' + 1 := ⟨f - 1, by omega⟩
      obtain ⟨g, rfl⟩ : ∃ g', g = g' + 1 := ⟨g - 1, by omega⟩
      by_cases h0 : m = 0
      · subst h0
        rfl
      · obtain ⟨a, ha, ha10⟩ := Lo.ex hm h0
        have hl : Lo m (lof m 0 10) := lof_spec 10 0 (fun l hl => absurd hl (Nat.not_lt_zero l)) ⟨a, by omega, ha.1⟩
        have h1 := clr_lt hm hl.1
        show (if m = 0 then 0 else _) = if m = 0 then 0 else _
        rw [if_neg h0, if_neg h0, ih f g (clr m (lof m 0 10)) (by omega) (by omega) (by omega) (by omega)]
        congr 1
        refine pmx_cg (fun b hb => ?_) n
        have h2 := clr_lt (a := b) (show clr m (lof m 0 10) < 1024 by omega) hb
        exact ih f g _ (by omega) (by omega) (by omega) (by omega)
  intro f m hm hf
  exact main (m + 1) f (m + 1) m (by omega) hm hf (by omega)
def mm (n : Nat) (s K : Nat → Nat) (W m : Nat) : Nat := mmf n s K W (m + 1) m
theorem mm_0 (n : Nat) (s K : Nat → Nat) (W : Nat) : mm n s K W 0 = 0 := rfl
theorem mm_at {n : Nat} {s K : Nat → Nat} {W m a : Nat} (hm : m < 1024) (ha : Lo m a) : mm n s K W m = max (mm n s K W (clr m a)) (pmx s K W (mm n s K W) a (clr m a) n) := by
  have h0 : m ≠ 0 := nz_iff.mpr ⟨a, ha.1⟩
  obtain ⟨a', ha', ha10⟩ := Lo.ex hm h0
  have hl : Lo m (lof m 0 10) := lof_spec 10 0 (fun l hl => absurd hl (Nat.not_lt_zero l)) ⟨a', by omega, ha'.1⟩
  have e : lof m 0 10 = a := hl.uq ha
  have h1 := clr_lt hm ha.1
  show (if m = 0 then 0 else max (mmf n s K W m (clr m (lof m 0 10))) (pmx s K W (mmf n s K W m) (lof m 0 10) (clr m (lof m 0 10)) n)) = _
  rw [if_neg h0, e, mmf_st m (clr m a) (by omega) (by omega)]
  congr 1
  refine pmx_cg (fun b hb => ?_) n
  have h2 := clr_lt (a := b) (show clr m a < 1024 by omega) hb
  exact mmf_st m _ (by omega) (by omega)
/-- no more pairs than half of them, nor than those outside one kin -/
theorem mm_bound {n : Nat} {s K : Nat → Nat} {W : Nat} (g : Nat) : ∀ N m, m < N → m < 1024 → 2 * mm n s K W m ≤ cb (fun j => m.testBit j) 10 ∧ mm n s K W m + cb (fun j => m.testBit j && decide (K j = g)) 10 ≤ cb (fun j => m.testBit j) 10 := by
  intro N
  induction N with
  | zero => intro m h; omega
  | succ N ih =>
    intro m hN hm
    by_cases h0 : m = 0
    · subst h0
      rw [mm_0]
      refine ⟨by omega, ?_⟩
      have z1 : cb (fun j => (0 : Nat).testBit j && decide (K j = g)) 10 = 0 := by
        unfold cb
        rw [sm_cg (g2 := fun _ => 0) 10 fun j _ => by simp]
        exact sm_zero 10
      rw [z1]
      omega
    · obtain ⟨a, ha, ha10⟩ := Lo.ex hm h0
      rw [mm_at hm ha]
      have h1 := clr_lt hm ha.1
      have hL := clr_le m a
      have i1 := ih (clr m a) (by omega) (by omega)
      have c1 : cb (fun j => m.testBit j) 10 = cb (fun j => (clr m a).testBit j) 10 + 1 := by
        rw [cb_out ha10 ha.1]
        congr 1
        exact cb_cg 10 fun j _ => (tb_clr hm).symm
      have c2 : cb (fun j => m.testBit j && decide (K j = g)) 10 ≤ cb (fun j => (clr m a).testBit j && decide (K j = g)) 10 + (if K a = g then 1 else 0) := by
        have := cb_out_le (f := fun j => m.testBit j && decide (K j = g)) (a := a) (k := 10)
        rw [show (fun j => (m.testBit j && decide (K j = g)) && !decide (a = j)) = fun j => (clr m a).testBit j && decide (K j = g) from funext fun j => by
          rw [tb_clr hm]
          cases m.testBit j <;> cases decide (K j = g) <;> cases decide (a = j) <;> rfl] at this
        refine Nat.le_trans this ?_
        rw [ha.1]
        by_cases q : K a = g
        · simp [q]
        · simp [q]
      have pm : ∀ k, 2 * pmx s K W (mm n s K W) a (clr m a) k ≤ cb (fun j => m.testBit j) 10 ∧ (pmx s K W (mm n s K W) a (clr m a) k = 0 ∨ pmx s K W (mm n s K W) a (clr m a) k + cb (fun j => m.testBit j && decide (K j = g)) 10 ≤ cb (fun j => m.testBit j) 10) := by
        intro k
        induction k with
        | zero => exact ⟨by show 2 * 0 ≤ _; omega, Or.inl rfl⟩
        | succ k ihk =>
          show 2 * (if a < k ∧ (clr m a).testBit k = true ∧ agr s K W a k then max (pmx s K W (mm n s K W) a (clr m a) k) (1 + mm n s K W (clr (clr m a) k)) else pmx s K W (mm n s K W) a (clr m a) k) ≤ _ ∧ ((if a < k ∧ (clr m a).testBit k = true ∧ agr s K W a k then max (pmx s K W (mm n s K W) a (clr m a) k) (1 + mm n s K W (clr (clr m a) k)) else pmx s K W (mm n s K W) a (clr m a) k) = 0 ∨ (if a < k ∧ (clr m a).testBit k = true ∧ agr s K W a k then max (pmx s K W (mm n s K W) a (clr m a) k) (1 + mm n s K W (clr (clr m a) k)) else pmx s K W (mm n s K W) a (clr m a) k) + _ ≤ _)
          by_cases q : a < k ∧ (clr m a).testBit k = true ∧ agr s K W a k
          · rw [if_pos q]
            have hcm : clr m a < 1024 := by omega
            have h2 := clr_lt hcm q.2.1
            have k10 : k < 10 := by
              refine Classical.byContradiction fun z => ?_
              have hk := q.2.1
              rw [Nat.testBit_lt_two_pow (Nat.lt_of_lt_of_le hcm (Nat.pow_le_pow_right (by decide) (show 10 ≤ k by omega) : 2 ^ 10 ≤ 2 ^ k))] at hk
              cases hk
            have i2 := ih (clr (clr m a) k) (by omega) (by omega)
            have d1 : cb (fun j => (clr m a).testBit j) 10 = cb (fun j => (clr (clr m a) k).testBit j) 10 + 1 := by
              rw [cb_out k10 q.2.1]
              congr 1
              exact cb_cg 10 fun j _ => (tb_clr hcm).symm
            have d2 : cb (fun j => (clr m a).testBit j && decide (K j = g)) 10 ≤ cb (fun j => (clr (clr m a) k).testBit j && decide (K j = g)) 10 + (if K k = g then 1 else 0) := by
              have := cb_out_le (f := fun j => (clr m a).testBit j && decide (K j = g)) (a := k) (k := 10)
              rw [show (fun j => ((clr m a).testBit j && decide (K j = g)) && !decide (k = j)) = fun j => (clr (clr m a) k).testBit j && decide (K j = g) from funext fun j => by
                rw [tb_clr hcm]
                cases (clr m a).testBit j <;> cases decide (K j = g) <;> cases decide (k = j) <;> rfl] at this
              refine Nat.le_trans this ?_
              rw [q.2.1]
              by_cases z : K k = g
              · simp [z]
              · simp [z]
            have ne : (if K a = g then 1 else 0) + (if K k = g then 1 else 0) ≤ 1 := by
              by_cases z1 : K a = g
              · by_cases z2 : K k = g
                · exact absurd (z1.trans z2.symm) q.2.2.1
                · rw [if_pos z1, if_neg z2]
                  exact Nat.le_refl _
              · rw [if_neg z1]
                split <;> omega
            refine ⟨by omega, Or.inr ?_⟩
            rcases ihk.2 with z | z
            · rw [z]
              omega
            · omega
          · rw [if_neg q]
            exact ihk
      have pn := pm n
      refine ⟨by omega, ?_⟩
      have left : mm n s K W (clr m a) + cb (fun j => m.testBit j && decide (K j = g)) 10 ≤ cb (fun j => m.testBit j) 10 := by
        have : (if K a = g then 1 else 0) ≤ 1 := by split <;> omega
        omega
      rcases pn.2 with z | z
      · rw [z]
        omega
      · omega
