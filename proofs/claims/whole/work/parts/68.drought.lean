/-! pure: pairs: drought -/
theorem sm_one {x : Nat} : ∀ k, sm (fun j => if j = x then 1 else 0) k = if x < k then 1 else 0
  | 0 => rfl
  | k + 1 => by
    show sm (fun j => if j = x then 1 else 0) k + (if k = x then 1 else 0) = _
    rw [sm_one k]
    by_cases e : k = x
    · subst e
      rw [if_neg (Nat.lt_irrefl k), if_pos rfl, if_pos (Nat.lt_succ_self k)]
    · by_cases l : x < k
      · rw [if_pos l, if_neg e, if_pos (by omega)]
      · rw [if_neg l, if_neg e, if_neg (by omega)]
def fx (g : Nat → Nat) : Nat := sm (fun k => if g k = k then 1 else 0) 8
/-- labels after m marriages along the edges Ed -/
def Dv (K : Nat → Nat) (Ed : Nat → Nat → Prop) (g : Nat → Nat) (m : Nat) : Prop :=
  (∀ k, k < 8 → g k < 8 ∧ g (g k) = g k) ∧ (∀ a b, Ed a b → g (K a) = g (K b)) ∧
  (∀ k l, k < 8 → l < 8 → g k = g l → ∀ r : Nat → Nat, (∀ a b, Ed a b → r (K a) = r (K b)) → r k = r l) ∧ fx g + m = 8
theorem Dv.cg {K : Nat → Nat} {Ed Ed2 : Nat → Nat → Prop} {g : Nat → Nat} {m : Nat} (h : Dv K Ed g m) (e : ∀ a b, Ed a b ↔ Ed2 a b) : Dv K Ed2 g m :=
  ⟨h.1, fun a b q => h.2.1 a b ((e a b).mpr q), fun k l hk hl q r hr => h.2.2.1 k l hk hl q r fun a b z => hr a b ((e a b).mp z), h.2.2.2⟩
theorem Dv.start (K : Nat → Nat) : Dv K (fun _ _ => False) (fun k => k) 0 :=
  ⟨fun k hk => ⟨hk, rfl⟩, fun _ _ q => q.elim, fun k l _ _ q r _ => by
    have q' : k = l := q
    rw [q'], by
    show sm (fun k => if k = k then 1 else 0) 8 + 0 = 8
    simp only [if_true]
    rfl⟩
def rel (g : Nat → Nat) (x y k : Nat) : Nat := if g k = y then x else g k
theorem Dv.same {K : Nat → Nat} {Ed : Nat → Nat → Prop} {g : Nat → Nat} {m a b : Nat} (h : Dv K Ed g m) (e : g (K a) = g (K b)) : Dv K (fun x y => Ed x y ∨ (x = a ∧ y = b)) g m := by
  refine ⟨h.1, fun x y q => ?_, fun k l hk hl q r hr => h.2.2.1 k l hk hl q r fun x y z => hr x y (Or.inl z), h.2.2.2⟩
  rcases q with q | ⟨rfl, rfl⟩
  · exact h.2.1 x y q
  · exact e
theorem Dv.merge {K : Nat → Nat} {Ed : Nat → Nat → Prop} {g : Nat → Nat} {m a b : Nat} (h : Dv K Ed g m) (ha : K a < 8) (hb : K b < 8) (e : ¬ g (K a) = g (K b)) : Dv K (fun x y => Ed x y ∨ (x = a ∧ y = b)) (rel g (g (K a)) (g (K b))) (m + 1) := by
  obtain ⟨h1, h2, h3, h4⟩ := h
  have ia := h1 (K a) ha
  have ib := h1 (K b) hb
  refine ⟨fun k hk => ?_, fun x y q => ?_, fun k l hk hl q r hr => ?_, ?_⟩
  · have ik := h1 k hk
    unfold rel
    by_cases z : g k = g (K b)
    · rw [if_pos z]
      refine ⟨ia.1, ?_⟩
      rw [ia.2, if_neg e]
    · rw [if_neg z]
      refine ⟨ik.1, ?_⟩
      rw [ik.2, if_neg z]
  · unfold rel
    rcases q with q | ⟨rfl, rfl⟩
    · rw [h2 x y q]
    · rw [if_neg e, if_pos rfl]
  · have hr' : ∀ x y, Ed x y → r (K x) = r (K y) := fun x y z => hr x y (Or.inl z)
    have hab : r (K a) = r (K b) := hr a b (Or.inr ⟨rfl, rfl⟩)
    unfold rel at q
    by_cases zk : g k = g (K b)
    · have rk := h3 k (K b) hk hb zk r hr'
      rw [if_pos zk] at q
      by_cases zl : g l = g (K b)
      · rw [rk, h3 l (K b) hl hb zl r hr']
      · rw [if_neg zl] at q
        rw [rk, ← hab]
        exact h3 (K a) l ha hl q r hr'
    · rw [if_neg zk] at q
      by_cases zl : g l = g (K b)
      · rw [if_pos zl] at q
        rw [h3 l (K b) hl hb zl r hr', ← hab]
        exact h3 k (K a) hk ha q r hr'
      · rw [if_neg zl] at q
        exact h3 k l hk hl q r hr'
  · have one : sm (fun j => if j = g (K b) then 1 else 0) 8 = 1 := by
      rw [sm_one, if_pos ib.1]
    have e1 : fx g = fx (rel g (g (K a)) (g (K b))) + sm (fun j => if j = g (K b) then 1 else 0) 8 := by
      unfold fx
      rw [← sm_add]
      refine sm_cg 8 fun k hk => ?_
      have ik := h1 k hk
      unfold rel
      by_cases z : g k = g (K b)
      · rw [if_pos z]
        by_cases kb : k = g (K b)
        · rw [if_pos (by rw [z]; exact kb.symm), if_neg (by rw [kb]; exact e), if_pos kb]
        · rw [if_neg (by rw [z]; exact fun q => kb q.symm), if_neg kb, if_neg]
          intro q
          have : g k = g (K a) := by
            rw [← q]
            exact ia.2
          exact e (this.symm.trans z)
      · rw [if_neg z]
        have kb : ¬ k = g (K b) := fun q => z (by rw [q]; exact ib.2)
        rw [if_neg kb]
        rfl
    omega
theorem Dv.eq {K : Nat → Nat} {Ed : Nat → Nat → Prop} {g g2 : Nat → Nat} {m m2 : Nat} (h : Dv K Ed g m) (h2 : Dv K Ed g2 m2) : m = m2 := by
  have ker : ∀ k l, k < 8 → l < 8 → (g k = g l ↔ g2 k = g2 l) := fun k l hk hl => ⟨fun q => h.2.2.1 k l hk hl q g2 h2.2.1, fun q => h2.2.2.1 k l hk hl q g h.2.1⟩
  have main : fx g = fx g2 := by
    unfold fx
    have A : sm (fun k => if g k = k then 1 else 0) 8 = sm (fun k => sm (fun l => if g k = k ∧ g2 l = l ∧ g l = g k then 1 else 0) 8) 8 := by
      refine sm_cg 8 fun k hk => ?_
      have ik := h2.1 k hk
      by_cases z : g k = k
      · rw [if_pos z]
        have : sm (fun l => if g k = k ∧ g2 l = l ∧ g l = g k then 1 else 0) 8 = sm (fun l => if l = g2 k then 1 else 0) 8 := by
          refine sm_cg 8 fun l hl => ?_
          by_cases q : l = g2 k
          · rw [if_pos q, if_pos]
            refine ⟨z, by rw [q]; exact ik.2, ?_⟩
            rw [ker l k hl hk, q]
            exact ik.2
          · rw [if_neg q, if_neg]
            rintro ⟨-, q1, q2⟩
            have := (ker l k hl hk).mp q2
            exact q (q1.symm.trans this)
        rw [this, sm_one, if_pos ik.1]
      · rw [if_neg z, sm_cg (g2 := fun _ => 0) 8 fun l _ => if_neg fun q => z q.1]
        exact (sm_zero 8).symm
    have Bq : sm (fun l => if g2 l = l then 1 else 0) 8 = sm (fun l => sm (fun k => if g k = k ∧ g2 l = l ∧ g l = g k then 1 else 0) 8) 8 := by
      refine sm_cg 8 fun l hl => ?_
      have il := h.1 l hl
      by_cases z : g2 l = l
      · rw [if_pos z]
        have : sm (fun k => if g k = k ∧ g2 l = l ∧ g l = g k then 1 else 0) 8 = sm (fun k => if k = g l then 1 else 0) 8 := by
          refine sm_cg 8 fun k hk => ?_
          by_cases q : k = g l
          · rw [if_pos q, if_pos]
            refine ⟨by rw [q]; exact il.2, z, ?_⟩
            rw [q]
            exact il.2.symm
          · rw [if_neg q, if_neg]
            rintro ⟨q1, -, q2⟩
            exact q (q1.symm.trans q2.symm)
        rw [this, sm_one, if_pos il.1]
      · rw [if_neg z, sm_cg (g2 := fun _ => 0) 8 fun k _ => if_neg fun q => z q.2.1]
        exact (sm_zero 8).symm
    rw [A, Bq, sm_fub]
  have a1 := h.2.2.2
  have a2 := h2.2.2.2
  omega
def GLb (c : Nat) (σ : gS) (g : Nat → Nat) : Prop := ∀ k, k < 8 → σ.1 c k = nI (g k)
theorem Cjoin {σ : gS} {g : Nat → Nat} {x y : Nat} (hg : GLb 16 σ g) (h8 : ∀ k, k < 8 → g k < 8) (hx : x < 8) (hy : y < 8) : ∃ τ, f_Cr_joinGroups 11 (nI x) (nI y) σ = some τ ∧ GLb 16 τ (rel g x y) ∧ Fr (only 16) σ τ := by
  unfold f_Cr_joinGroups
  simp only [litE]
  refine loopG (fun fu i a => f_Cr_joinGroups_L2 11 fu (nI x) (nI y) (nI i) a) (fun o => ∃ τ, o = some τ ∧ GLb 16 τ (rel g x y) ∧ Fr (only 16) σ τ) (fun i a => Fr (only 16) σ a ∧ ∀ k, k < 8 → a.1 16 k = nI (if k < i then rel g x y k else g k)) 8 0 σ (by omega) (by omega) ⟨Fr.rf _ _, fun k hk => by rw [if_neg (Nat.not_lt_zero k)]; exact hg k hk⟩ ?_ ?_
  · rintro fu i a hi ⟨hF, hk⟩
    left
    have q1 : ¬ 8 ≤ i := by omega
    have e := hk i hi
    rw [if_neg (Nat.lt_irrefl i)] at e
    have g8 := h8 i hi
    by_cases z : g i = y
    · refine ⟨gpi a 16 i (nI x), ?_, hF.pi rfl, fun k hk8 => ?_⟩
      · simp (disch := omega) only [f_Cr_joinGroups_L2, litE, nI_leI, q1, ↓reduceIte, gix_nI, nI_clamp, e, z, gupE, nI_add]
      · rw [gpi_at]
        by_cases q : k = i
        · rw [if_pos ⟨rfl, q⟩, q, if_pos (Nat.lt_succ_self i)]
          unfold rel
          rw [if_pos z]
        · rw [if_neg fun z => q z.2, hk k hk8]
          by_cases l : k < i
          · rw [if_pos l, if_pos (by omega)]
          · rw [if_neg l, if_neg (by omega)]
    · refine ⟨a, ?_, hF, fun k hk8 => ?_⟩
      · simp (disch := omega) only [f_Cr_joinGroups_L2, litE, nI_leI, q1, ↓reduceIte, gix_nI, nI_clamp, e, nI_eq, z, nI_add]
      · rw [hk k hk8]
        by_cases q : k = i
        · rw [q, if_neg (Nat.lt_irrefl i), if_pos (Nat.lt_succ_self i)]
          unfold rel
          rw [if_neg z]
        · by_cases l : k < i
          · rw [if_pos l, if_pos (by omega)]
          · rw [if_neg l, if_neg (by omega)]
  · rintro fu a ⟨hF, hk⟩
    have q1 : nI 8 ≤ nI 8 := Int32.le_refl _
    refine ⟨a, ?_, fun k hk8 => by rw [hk k hk8, if_pos hk8], hF⟩
    simp (disch := omega) only [f_Cr_joinGroups_L2, litE, q1, ↓reduceIte]
/-- the edges that are gone through: from the lesser one's side -/
def EdC (n : Nat) (s K : Nat → Nat) (W i j x y : Nat) : Prop := (x < y ∧ y < n ∧ agr s K W x y) ∧ (x < i ∨ (x = i ∧ y < j))
def EdM (n : Nat) (s K : Nat → Nat) (W i j x y : Nat) : Prop := (x < y ∧ y < n ∧ agr s K W x y) ∧ (y < i ∨ (y = i ∧ x < j))
def EdA (n : Nat) (s K : Nat → Nat) (W x y : Nat) : Prop := x < y ∧ y < n ∧ agr s K W x y
theorem Cdrought {σ : gS} {n W : Nat} {s K : Nat → Nat} (hM : CS 11 σ n s K W) (hR : Rg n s K W) : ∃ m τ g, f_Cr_marriagesToDrought 11 σ = some (nI m, τ) ∧ Dv K (EdA n s K W) g m ∧ Fr (only 16) σ τ := by
  have hn := hR.1
  have keep : ∀ τ, Fr (only 16) σ τ → CS 11 τ n s K W := fun τ hF => ⟨⟨(only_ne hF (by decide) 2).trans hM.1.1, (only_ne hF (by decide) 3).trans hM.1.2⟩, fun j hj => ⟨(only_ne hF (by decide) j).trans (hM.2 j hj).1, (only_ne hF (by decide) j).trans (hM.2 j hj).2⟩⟩
  have main : ∀ τ, Fr (only 16) σ τ → GLb 16 τ (fun k => k) → ∃ m υ g, f_Cr_marriagesToDrought_L25 11 gfu (nI 0) (nI 0) τ = some (nI m, υ) ∧ Dv K (EdA n s K W) g m ∧ Fr (only 16) σ υ := by
    intro τ0 hF0 hg0
    refine loopG (fun fu i (p : Nat × gS) => f_Cr_marriagesToDrought_L25 11 fu (nI p.1) (nI i) p.2) (fun o => ∃ m υ g, o = some (nI m, υ) ∧ Dv K (EdA n s K W) g m ∧ Fr (only 16) σ υ) (fun i p => Fr (only 16) σ p.2 ∧ ∃ g, GLb 16 p.2 g ∧ Dv K (EdC n s K W i 0) g p.1) n 0 (0, τ0) (by omega) (by omega) ⟨hF0, _, hg0, (Dv.start K).cg fun x y => ⟨False.elim, fun q => by have := q.2; omega⟩⟩ ?_ ?_
    · rintro fu i ⟨m, τ⟩ hi ⟨hF, g, hg, hd⟩
      left
      simp only at hF hg hd
      have hC := keep τ hF
      have q1 : ¬ n ≤ i := by omega
      have m8 := hd.2.2.2
      have inner := loopG (fun g' j (p : Nat × gS) => f_Cr_marriagesToDrought_L37 11 (fun v1 v2 σ => f_Cr_marriagesToDrought_L25 11 fu v1 v2 σ) g' (nI p.1) (nI i) (nI j) p.2) (fun o => ∃ p : Nat × gS, o = f_Cr_marriagesToDrought_L25 11 fu (nI p.1) (nI (i + 1)) p.2 ∧ Fr (only 16) σ p.2 ∧ ∃ g, GLb 16 p.2 g ∧ Dv K (EdC n s K W (i + 1) 0) g p.1) (fun j p => i + 1 ≤ j ∧ Fr (only 16) σ p.2 ∧ ∃ g, GLb 16 p.2 g ∧ Dv K (EdC n s K W i j) g p.1) n (i + 1) (m, τ) (by omega) (by omega) ⟨Nat.le_refl _, hF, g, hg, hd.cg fun x y => ⟨fun q => ⟨q.1, by have := q.2; omega⟩, fun q => ⟨q.1, by have := q.1.1; have := q.2; omega⟩⟩⟩ ?_ ?_
      · obtain ⟨p, e, hh⟩ := inner
        refine ⟨p, ?_, hh⟩
        show f_Cr_marriagesToDrought_L25 11 (fu + 1) (nI m) (nI i) τ = _
        rw [← e]
        simp (disch := omega) only [f_Cr_marriagesToDrought_L25, litE, hC.1.1, nI_leI, q1, ↓reduceIte, gltE, nI_add]
      · rintro g' j ⟨m, υ⟩ hj ⟨hij, hFu, g, hg, hd⟩
        left
        simp only at hFu hg hd
        have hCu := keep υ hFu
        have q2 : ¬ n ≤ j := by omega
        have k1 := hR.sk hi
        have k2 := hR.sk hj
        have a1 := (hCu.2 i hi).2
        have a2 := (hCu.2 j hj).2
        have a1' : υ.1 13 i = nI (K i) := a1
        have a2' : υ.1 13 j = nI (K j) := a2
        have hag := Cagree hCu hR hi hj
        have g1 := hg (K i) k1.2.1
        have g2 := hg (K j) k2.2.1
        have i1 := (hd.1 (K i) k1.2.1).1
        have i2 := (hd.1 (K j) k2.2.1).1
        have m8 := hd.2.2.2
        have noE : ¬ agr s K W i j → ∀ x y, EdC n s K W i j x y ↔ EdC n s K W i (j + 1) x y := fun t x y => ⟨fun q => ⟨q.1, by have := q.2; omega⟩, fun q => ⟨q.1, by
          rcases q.2 with z | ⟨z1, z2⟩
          · exact Or.inl z
          · by_cases e : y = j
            · exact absurd (by rw [← z1, ← e]; exact q.1.2.2) t
            · exact Or.inr ⟨z1, by omega⟩⟩⟩
        have yesE : agr s K W i j → ∀ x y, (EdC n s K W i j x y ∨ (x = i ∧ y = j)) ↔ EdC n s K W i (j + 1) x y := fun t x y => by
          constructor
          · rintro (q | ⟨rfl, rfl⟩)
            · exact ⟨q.1, by have := q.2; omega⟩
            · exact ⟨⟨by omega, hj, t⟩, Or.inr ⟨rfl, by omega⟩⟩
          · intro q
            rcases q.2 with z | ⟨z1, z2⟩
            · exact Or.inl ⟨q.1, Or.inl z⟩
            · by_cases e : y = j
              · exact Or.inr ⟨z1, e⟩
              · exact Or.inl ⟨q.1, Or.inr ⟨z1, by omega⟩⟩
        by_cases t : agr s K W i j
        · by_cases z : g (K i) = g (K j)
          · refine ⟨(m, υ), ?_, by omega, hFu, g, hg, (hd.same z).cg (yesE t)⟩
            simp (disch := omega) only [f_Cr_marriagesToDrought_L37, litE, hCu.1.1, nI_leI, q2, ↓reduceIte, hag, decide_eq_true t, bindE, bI_0, Bool.true_eq_false, gix_nI, nI_clamp, a1', a2', Nat.reduceAdd, g1, g2, z, nI_add]
          · obtain ⟨ρ, r1, r2, r3⟩ := Cjoin hg (fun k hk => (hd.1 k hk).1) i1 i2
            refine ⟨(m + 1, ρ), ?_, by omega, hFu.tr r3, _, r2, (hd.merge k1.2.1 k2.2.1 z).cg (yesE t)⟩
            simp (disch := omega) only [f_Cr_marriagesToDrought_L37, litE, hCu.1.1, nI_leI, q2, ↓reduceIte, hag, decide_eq_true t, bindE, bI_0, Bool.true_eq_false, gix_nI, nI_clamp, a1', a2', Nat.reduceAdd, g1, g2, nI_eq, z, r1, nI_add]
        · refine ⟨(m, υ), ?_, by omega, hFu, g, hg, hd.cg (noE t)⟩
          simp (maxSteps := 3000000) (disch := omega) only [f_Cr_marriagesToDrought_L37, litE, hCu.1.1, nI_leI, q2, ↓reduceIte, hag, decide_eq_false t, bindE, bI_0, nI_add]
      · rintro g' ⟨m, υ⟩ ⟨hij, hFu, g, hg, hd⟩
        simp only at hFu hg hd
        have hCu := keep υ hFu
        have q2 : nI n ≤ nI n := Int32.le_refl _
        refine ⟨(m, υ), ?_, hFu, g, hg, hd.cg fun x y => ⟨fun q => ⟨q.1, by have := q.2; omega⟩, fun q => ⟨q.1, by have := q.1.2.1; have := q.2; omega⟩⟩⟩
        simp (disch := omega) only [f_Cr_marriagesToDrought_L37, litE, hCu.1.1, q2, ↓reduceIte, nI_add]
    · rintro fu ⟨m, τ⟩ ⟨hF, g, hg, hd⟩
      simp only at hF hg hd
      have hC := keep τ hF
      have q1 : nI n ≤ nI n := Int32.le_refl _
      refine ⟨m, τ, g, ?_, hd.cg fun x y => ⟨fun q => q.1, fun q => ⟨q, Or.inl (by have := q.1; have := q.2.1; omega)⟩⟩, hF⟩
      simp (disch := omega) only [f_Cr_marriagesToDrought_L25, litE, hC.1.1, q1, ↓reduceIte]
  unfold f_Cr_marriagesToDrought
  simp only [litE]
  refine loopG (fun fu i a => f_Cr_marriagesToDrought_L2 11 fu (nI i) a) (fun o => ∃ m τ g, o = some (nI m, τ) ∧ Dv K (EdA n s K W) g m ∧ Fr (only 16) σ τ) (fun i a => Fr (only 16) σ a ∧ ∀ k, k < i → a.1 16 k = nI k) 8 0 σ (by omega) (by omega) ⟨Fr.rf _ _, fun k h => absurd h (Nat.not_lt_zero k)⟩ ?_ ?_
  · rintro fu i a hi ⟨hF, hk⟩
    left
    have q1 : ¬ 8 ≤ i := by omega
    refine ⟨gpi a 16 i (nI i), ?_, hF.pi rfl, fun k hk2 => ?_⟩
    · simp (disch := omega) only [f_Cr_marriagesToDrought_L2, litE, nI_leI, q1, ↓reduceIte, gix_nI, nI_clamp, gupE, nI_add, Nat.reduceAdd]
    · rw [gpi_at]
      by_cases q : k = i
      · rw [if_pos ⟨rfl, q⟩, q]
      · rw [if_neg fun z => q z.2]
        exact hk k (by omega)
  · rintro fu a ⟨hF, hk⟩
    have q1 : nI 8 ≤ nI 8 := Int32.le_refl _
    obtain ⟨m, υ, g, e, hh⟩ := main a hF hk
    refine ⟨m, υ, g, ?_, hh⟩
    rw [← e]
    simp (disch := omega) only [f_Cr_marriagesToDrought_L2, litE, q1, ↓reduceIte]
