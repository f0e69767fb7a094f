/-! pure: pairs: drought in the reference -/
theorem Mjoin {σ : gS} {g : Nat → Nat} {x y m a b : Nat} (hg : GLb 69 σ g) (h8 : ∀ k, k < 8 → g k < 8) (hx : x < 8) (hy : y < 8) (k25 : Int32 → Int32 → gS → Option (Int32 × gS)) (k35 : Int32 → Int32 → Int32 → gS → Option (Int32 × gS)) :
    ∃ τ, f_M_droughtOf_L85 k25 k35 gfu (nI m) (nI a) (nI b) (nI y) (nI x) (nI 0) σ = k35 (nI (m + 1)) (nI a) (nI (b + 1)) τ ∧ GLb 69 τ (rel g x y) ∧ Fr (only 69) σ τ := by
  refine loopG (fun fu i s => f_M_droughtOf_L85 k25 k35 fu (nI m) (nI a) (nI b) (nI y) (nI x) (nI i) s) (fun o => ∃ τ, o = k35 (nI (m + 1)) (nI a) (nI (b + 1)) τ ∧ GLb 69 τ (rel g x y) ∧ Fr (only 69) σ τ) (fun i a => Fr (only 69) σ a ∧ ∀ k, k < 8 → a.1 69 k = nI (if k < i then rel g x y k else g k)) 8 0 σ (by omega) (by omega) ⟨Fr.rf _ _, fun k hk => by rw [if_neg (Nat.not_lt_zero k)]; exact hg k hk⟩ ?_ ?_
  · rintro fu i s hi ⟨hF, hk⟩
    left
    have q1 : ¬ 8 ≤ i := by omega
    have e := hk i hi
    rw [if_neg (Nat.lt_irrefl i)] at e
    have g8 := h8 i hi
    have fin : ∀ v, v = rel g x y i → (∀ k, k < 8 → (gpi s 69 i (nI v)).1 69 k = nI (if k < i + 1 then rel g x y k else g k)) := fun v hv k hk8 => by
      rw [gpi_at]
      by_cases q : k = i
      · rw [if_pos ⟨rfl, q⟩, q, if_pos (Nat.lt_succ_self i), hv]
      · rw [if_neg fun z => q z.2, hk k hk8]
        by_cases l : k < i
        · rw [if_pos l, if_pos (by omega)]
        · rw [if_neg l, if_neg (by omega)]
    by_cases z : g i = y
    · refine ⟨gpi s 69 i (nI x), ?_, hF.pi rfl, fin x (by unfold rel; rw [if_pos z])⟩
      simp (disch := omega) only [f_M_droughtOf_L85, f_M_droughtOf_j122, litE, nI_leI, q1, ↓reduceIte, gix_nI, nI_clamp, e, z, gupE, nI_add]
    · refine ⟨gpi s 69 i (nI (g i)), ?_, hF.pi rfl, fin (g i) (by unfold rel; rw [if_neg z])⟩
      simp (disch := omega) only [f_M_droughtOf_L85, f_M_droughtOf_j122, litE, nI_leI, q1, ↓reduceIte, gix_nI, nI_clamp, e, nI_eq, z, gupE, nI_add]
  · rintro fu a ⟨hF, hk⟩
    have q1 : nI 8 ≤ nI 8 := Int32.le_refl _
    refine ⟨a, ?_, fun k hk8 => by rw [hk k hk8, if_pos hk8], hF⟩
    simp (disch := omega) only [f_M_droughtOf_L85, litE, q1, ↓reduceIte, nI_add]
theorem Mdrought {σ : gS} {n W : Nat} {s K : Nat → Nat} (hM : MS σ n s K W) (hR : Rg n s K W) : ∃ m τ g, f_M_droughtOf σ = some (nI m, τ) ∧ Dv K (EdA n s K W) g m ∧ Fr (only 69) σ τ := by
  have hn := hR.1
  have keep : ∀ τ, Fr (only 69) σ τ → MS τ n s K W := fun τ hF => ⟨⟨(only_ne hF (by decide) 6).trans hM.1.1, (only_ne hF (by decide) 41).trans hM.1.2⟩, fun j hj => ⟨(only_ne hF (by decide) j).trans (hM.2 j hj).1, (only_ne hF (by decide) j).trans (hM.2 j hj).2⟩⟩
  have main : ∀ τ, Fr (only 69) σ τ → GLb 69 τ (fun k => k) → ∃ m υ g, f_M_droughtOf_L25 gfu (nI 0) (nI 0) τ = some (nI m, υ) ∧ Dv K (EdA n s K W) g m ∧ Fr (only 69) σ υ := by
    intro τ0 hF0 hg0
    refine loopG (fun fu i (p : Nat × gS) => f_M_droughtOf_L25 fu (nI p.1) (nI i) p.2) (fun o => ∃ m υ g, o = some (nI m, υ) ∧ Dv K (EdA n s K W) g m ∧ Fr (only 69) σ υ) (fun i p => Fr (only 69) σ p.2 ∧ ∃ g, GLb 69 p.2 g ∧ Dv K (EdM n s K W i 0) g p.1) n 0 (0, τ0) (by omega) (by omega) ⟨hF0, _, hg0, (Dv.start K).cg fun x y => ⟨False.elim, fun q => by have := q.2; omega⟩⟩ ?_ ?_
    · rintro fu i ⟨m, τ⟩ hi ⟨hF, g, hg, hd⟩
      left
      simp only at hF hg hd
      have hC := keep τ hF
      have q1 : ¬ n ≤ i := by omega
      have inner := loopG (fun g' j (p : Nat × gS) => f_M_droughtOf_L35 (fun v1 v2 σ => f_M_droughtOf_L25 fu v1 v2 σ) g' (nI p.1) (nI i) (nI j) p.2) (fun o => ∃ p : Nat × gS, o = f_M_droughtOf_L25 fu (nI p.1) (nI (i + 1)) p.2 ∧ Fr (only 69) σ p.2 ∧ ∃ g, GLb 69 p.2 g ∧ Dv K (EdM n s K W (i + 1) 0) g p.1) (fun j p => Fr (only 69) σ p.2 ∧ ∃ g, GLb 69 p.2 g ∧ Dv K (EdM n s K W i j) g p.1) i 0 (m, τ) (by omega) (by omega) ⟨hF, g, hg, hd⟩ ?_ ?_
      · obtain ⟨p, e, hh⟩ := inner
        refine ⟨p, ?_, hh⟩
        show f_M_droughtOf_L25 (fu + 1) (nI m) (nI i) τ = _
        rw [← e]
        simp (disch := omega) only [f_M_droughtOf_L25, litE, hC.1.1, nI_leI, q1, ↓reduceIte]
      · rintro g' j ⟨m, υ⟩ hj ⟨hFu, g, hg, hd⟩
        left
        simp only at hFu hg hd
        have hCu := keep υ hFu
        have q2 : ¬ i ≤ j := by omega
        have k1 := hR.sk hi
        have k2 := hR.sk (j := j) (by omega)
        have a1 := (hCu.2 i hi).2
        have a2 := (hCu.2 j (by omega)).2
        have hag := Magree hCu hR hi (show j < n by omega)
        have g1 := hg (K i) k1.2.1
        have g2 := hg (K j) k2.2.1
        have i1 := (hd.1 (K i) k1.2.1).1
        have i2 := (hd.1 (K j) k2.2.1).1
        have m8 := hd.2.2.2
        have noE : ¬ agr s K W j i → ∀ x y, EdM n s K W i j x y ↔ EdM n s K W i (j + 1) x y := fun t x y => ⟨fun q => ⟨q.1, by have := q.2; omega⟩, fun q => ⟨q.1, by
          rcases q.2 with z | ⟨z1, z2⟩
          · exact Or.inl z
          · by_cases e : x = j
            · exact absurd (by rw [← z1, ← e]; exact q.1.2.2) t
            · exact Or.inr ⟨z1, by omega⟩⟩⟩
        have yesE : agr s K W j i → ∀ x y, (EdM n s K W i j x y ∨ (x = j ∧ y = i)) ↔ EdM n s K W i (j + 1) x y := fun t x y => by
          constructor
          · rintro (q | ⟨rfl, rfl⟩)
            · exact ⟨q.1, by have := q.2; omega⟩
            · exact ⟨⟨by omega, hi, t⟩, Or.inr ⟨rfl, by omega⟩⟩
          · intro q
            rcases q.2 with z | ⟨z1, z2⟩
            · exact Or.inl ⟨q.1, Or.inl z⟩
            · by_cases e : x = j
              · exact Or.inr ⟨e, z1⟩
              · exact Or.inl ⟨q.1, Or.inr ⟨z1, by omega⟩⟩
        have x1 := gix_nI (k := i) (m := 43) (by omega) (by decide)
        have x2 := gix_nI (k := K i) (m := 8) (by omega) (by decide)
        have x3 := gix_nI (k := j) (m := 43) (by omega) (by decide)
        have x4 := gix_nI (k := K j) (m := 8) (by omega) (by decide)
        have head : f_M_droughtOf_L35 (fun v1 v2 σ => f_M_droughtOf_L25 fu v1 v2 σ) (g' + 1) (nI m) (nI i) (nI j) υ = if bI (decide (agr s K W i j)) = 0 then f_M_droughtOf_L35 (fun v1 v2 σ => f_M_droughtOf_L25 fu v1 v2 σ) g' (nI m) (nI i) (nI (j + 1)) υ else if nI (g (K i)) = nI (g (K j)) then f_M_droughtOf_L35 (fun v1 v2 σ => f_M_droughtOf_L25 fu v1 v2 σ) g' (nI m) (nI i) (nI (j + 1)) υ else f_M_droughtOf_L85 (fun v1 v2 σ => f_M_droughtOf_L25 fu v1 v2 σ) (fun v1 v2 v3 σ => f_M_droughtOf_L35 (fun v1 v2 σ => f_M_droughtOf_L25 fu v1 v2 σ) g' v1 v2 v3 σ) gfu (nI m) (nI i) (nI j) (nI (g (K i))) (nI (g (K j))) (nI 0) υ := by
          rw [f_M_droughtOf_L35, if_neg (nI_ge (a := j) (b := i) (by omega) (by omega)), if_pos x1, nI_clamp (show i < 2 ^ 31 by omega), a1, if_pos x2, nI_clamp (show K i < 2 ^ 31 by omega), g1, gltE, if_pos x3, nI_clamp (show j < 2 ^ 31 by omega), a2, if_pos x4, nI_clamp (show K j < 2 ^ 31 by omega), g2, gltE, hag, bindE]
          simp only [litE, nI_add]
        show ∃ a' : Nat × gS, f_M_droughtOf_L35 (fun v1 v2 σ => f_M_droughtOf_L25 fu v1 v2 σ) (g' + 1) (nI m) (nI i) (nI j) υ = f_M_droughtOf_L35 (fun v1 v2 σ => f_M_droughtOf_L25 fu v1 v2 σ) g' (nI a'.1) (nI i) (nI (j + 1)) a'.2 ∧ Fr (only 69) σ a'.2 ∧ ∃ g, GLb 69 a'.2 g ∧ Dv K (EdM n s K W i (j + 1)) g a'.1
        rw [head]
        by_cases t : agr s K W i j
        · rw [decide_eq_true t, if_neg (by decide)]
          by_cases z : g (K i) = g (K j)
          · rw [if_pos (by rw [z])]
            exact ⟨(m, υ), rfl, hFu, g, hg, (hd.same z.symm).cg (yesE t.cm)⟩
          · obtain ⟨ρ, r1, r2, r3⟩ := Mjoin (m := m) (a := i) (b := j) hg (fun k hk => (hd.1 k hk).1) i2 i1 (fun v1 v2 σ => f_M_droughtOf_L25 fu v1 v2 σ) (fun v1 v2 v3 σ => f_M_droughtOf_L35 (fun v1 v2 σ => f_M_droughtOf_L25 fu v1 v2 σ) g' v1 v2 v3 σ)
            rw [if_neg (by rw [nI_eq (by omega) (by omega)]; exact z), r1]
            exact ⟨(m + 1, ρ), rfl, hFu.tr r3, _, r2, (hd.merge k2.2.1 k1.2.1 fun q => z q.symm).cg (yesE t.cm)⟩
        · rw [decide_eq_false t, if_pos (by decide)]
          exact ⟨(m, υ), rfl, hFu, g, hg, hd.cg (noE fun q => t q.cm)⟩
      · rintro g' ⟨m, υ⟩ ⟨hFu, g, hg, hd⟩
        simp only at hFu hg hd
        have q2 : nI i ≤ nI i := Int32.le_refl _
        refine ⟨(m, υ), ?_, hFu, g, hg, hd.cg fun x y => ⟨fun q => ⟨q.1, by have := q.2; omega⟩, fun q => ⟨q.1, by have := q.1.1; have := q.2; omega⟩⟩⟩
        rw [f_M_droughtOf_L35, if_pos q2, litE, nI_add]
    · rintro fu ⟨m, τ⟩ ⟨hF, g, hg, hd⟩
      simp only at hF hg hd
      have hC := keep τ hF
      have q1 : nI n ≤ nI n := Int32.le_refl _
      refine ⟨m, τ, g, ?_, hd.cg fun x y => ⟨fun q => q.1, fun q => ⟨q, Or.inl q.2.1⟩⟩, hF⟩
      rw [f_M_droughtOf_L25, hC.1.1, if_pos q1]
  unfold f_M_droughtOf
  simp only [litE]
  refine loopG (fun fu i a => f_M_droughtOf_L2 fu (nI i) a) (fun o => ∃ m τ g, o = some (nI m, τ) ∧ Dv K (EdA n s K W) g m ∧ Fr (only 69) σ τ) (fun i a => Fr (only 69) σ a ∧ ∀ k, k < i → a.1 69 k = nI k) 8 0 σ (by omega) (by omega) ⟨Fr.rf _ _, fun k h => absurd h (Nat.not_lt_zero k)⟩ ?_ ?_
  · rintro fu i a hi ⟨hF, hk⟩
    left
    have q1 : ¬ 8 ≤ i := by omega
    refine ⟨gpi a 69 i (nI i), ?_, hF.pi rfl, fun k hk2 => ?_⟩
    · simp (disch := omega) only [f_M_droughtOf_L2, litE, nI_leI, q1, ↓reduceIte, gix_nI, nI_clamp, gupE, nI_add]
    · rw [gpi_at]
      by_cases q : k = i
      · rw [if_pos ⟨rfl, q⟩, q]
      · rw [if_neg fun z => q z.2]
        exact hk k (by omega)
  · rintro fu a ⟨hF, hk⟩
    have q1 : nI 8 ≤ nI 8 := Int32.le_refl _
    obtain ⟨m, υ, g, e, hh⟩ := main a hF hk
    refine ⟨m, υ, g, ?_, hh⟩
    rw [← e]
    simp (disch := omega) only [f_M_droughtOf_L2, litE, q1, ↓reduceIte]
