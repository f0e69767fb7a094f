/-! pure: citizens agrees -/
theorem Mcit_L {σ : gS} {d z n p k : Nat} {x : Nat → Int64} {K E P : Nat → Nat} {B : Nat → Int32} (hB : MRow σ d z x) (hd : d < 6) (hP : PR σ n K E P B) (hn : n ≤ 10) (hp : p < 2147483000) (hk : k ≤ 10) :
    ∃ r τ, f_M_citizens_L69 gfu (nI d) (nI p) (nI k) (nI 0) (nI 1) σ = some (nI r, τ) ∧ Cms x z n p k r ∧ PR τ (n + r) (xK K n x p) (xE E n x p) (xP P n x p) (xB B n) ∧ Fr cCm σ τ := by
  have base : PR σ (n + 0) (xK K n x p) (xE E n x p) (xP P n x p) (xB B n) := by
    refine ⟨hP.1, fun c hc => ?_⟩
    have h := hP.2 c hc
    unfold xK xE xP xB
    rw [if_pos (show c < n from hc), if_pos (show c < n from hc), if_pos (show c < n from hc), if_pos (show c < n from hc)]
    exact h
  have m3 : ∀ k, nI 3 * nI k = nI (3 * k) := fun k => pk_mul 3 k
  refine loopG (fun fu _ (a : Nat × Bool × gS) => f_M_citizens_L69 fu (nI d) (nI p) (nI k) (nI a.1) (bI a.2.1) a.2.2) (fun o => ∃ r τ, o = some (nI r, τ) ∧ Cms x z n p k r ∧ PR τ (n + r) (xK K n x p) (xE E n x p) (xP P n x p) (xB B n) ∧ Fr cCm σ τ)
    (fun i a => (a.2.1 = true → a.1 = i ∧ i ≤ k) ∧ (a.2.1 = false → Cms x z n p k a.1) ∧ (∀ j, j < a.1 → n + j < 10 ∧ three x z (p + 3 * j)) ∧ PR a.2.2 (n + a.1) (xK K n x p) (xE E n x p) (xP P n x p) (xB B n) ∧ Fr cCm σ a.2.2) (k + 1) 0 (0, true, σ) (by omega) (by omega) ⟨fun _ => ⟨rfl, Nat.zero_le _⟩, fun q => Bool.noConfusion q, fun j h => absurd h (Nat.not_lt_zero j), base, Fr.rf _ _⟩ ?_ ?_
  · rintro fu i ⟨c, fl, a⟩ hi ⟨g1, g2, h1, h2, hF⟩
    simp only at g1 g2 h1 h2 hF
    cases fl with
    | false =>
      right
      refine ⟨c, a, ?_, g2 rfl, h2, hF⟩
      simp (maxSteps := 2000000) (disch := omega) only [f_M_citizens_L69, gupE, gltE, gllE, litE, litLE, bindE, ↓reduceIte, gsi_at, gsi_l2, gsl_at, gsl_i1, upd_at, updL_at, Nat.reduceEqDiff, gix_nI, nI_clamp, bI_0, bI_gzb, Bool.true_eq_false, Bool.false_eq_true]
    | true =>
      obtain ⟨rfl, hck⟩ := g1 rfl
      have hBa : MRow a d z x := hB.sy (fun k => hF.1 77 k rfl) (fun k => hF.2 78 k rfl)
      have hz := hBa.1
      have n10 : ¬ nI 1 = nI 0 := by decide
      by_cases q1 : k ≤ c
      · right
        refine ⟨c, a, ?_, ⟨hck, h1, Or.inl (by omega)⟩, h2, hF⟩
        simp (disch := omega) only [f_M_citizens_L69, litE, bI_t, n10, ↓reduceIte, nI_leI, q1]
      · left
        have hc10 : c ≤ 10 := by omega
        have hsub : ((nI z - nI 3 - nI (3 * c)) < nI p) = ¬ (p + 3 * c + 3 ≤ z) := by
          rw [i_lt, nI_toInt (by omega)]
          have e1 : (nI z - nI 3 - nI (3 * c)).toInt = (z : Int) - 3 - 3 * c := by
            rw [Int32.toInt_sub, nI_subI (by omega) (by decide), nI_toInt (by omega)]
            have : ((z : Int) - (3 : Nat) - ((3 * c : Nat) : Int)).bmod (2 ^ 32) = (z : Int) - (3 : Nat) - ((3 * c : Nat) : Int) := Int.bmod_eq_of_le (by omega) (by omega)
            rw [this]
            omega
          rw [e1]
          apply propext
          omega
        have fail : ¬ (n + c < 10 ∧ three x z (p + 3 * c)) → Cms x z n p k c := fun q => ⟨hck, h1, Or.inr q⟩
        have kk : ∀ s0 s1, s0 = nI 0 → f_M_citizens_j111 (fun v1 v2 v3 v4 v5 σ => f_M_citizens_L69 fu v1 v2 v3 v4 v5 σ) (nI d) (nI p) (nI k) (nI c) s0 s1 = f_M_citizens_L69 fu (nI d) (nI p) (nI k) (nI c) (bI false) s1 := by
          intro s0 s1 e
          subst e
          unfold f_M_citizens_j111 f_M_citizens_j166 f_M_citizens_j167
          simp only [litE, gltE, ↓reduceIte, bI_f]
        by_cases q3 : p + 3 * c + 3 ≤ z
        · by_cases h10 : n + c < 10
          · have g10 : ¬ 10 ≤ n + c := by omega
            have x0 : a.2 78 (60 * d + p + 3 * c) = x (p + 3 * c) := by
              have := (hBa.2.2 (p + 3 * c) (by omega)).1
              rw [show 60 * d + (p + 3 * c) = 60 * d + p + 3 * c by omega] at this
              exact this
            have x1 : a.2 78 (60 * d + p + 3 * c + 1) = x (p + 3 * c + 1) := by
              have := (hBa.2.2 (p + 3 * c + 1) (by omega)).1
              rw [show 60 * d + (p + 3 * c + 1) = 60 * d + p + 3 * c + 1 by omega] at this
              exact this
            have x2 : a.2 78 (60 * d + p + 3 * c + 2) = x (p + 3 * c + 2) := by
              have := (hBa.2.2 (p + 3 * c + 2) (by omega)).1
              rw [show 60 * d + (p + 3 * c + 2) = 60 * d + p + 3 * c + 2 by omega] at this
              exact this
            have hq3 : ¬ ((nI z - nI 3 - nI (3 * c)) < nI p) := by rw [hsub]; omega
            have first : f_M_citizens_L69 (fu + 1) (nI d) (nI p) (nI k) (nI c) (bI true) a = f_M_citizens_j111 (fun v1 v2 v3 v4 v5 σ => f_M_citizens_L69 fu v1 v2 v3 v4 v5 σ) (nI d) (nI p) (nI k) (nI c) (nI 1) a := by
              simp (disch := omega) only [f_M_citizens_L69, litE, bI_t, n10, ↓reduceIte, nI_leI, q1, gix_nI, nI_clamp, hBa.2.1, m3, hq3, h2.1, g10]
            rcases three_c hBa q3 with ⟨tc, t3⟩ | ⟨tc, t3⟩
            · obtain ⟨c1, c2, c3⟩ := bval.m hBa t3.2.1
              obtain ⟨d1, d2, d3⟩ := bval.m hBa t3.2.2.1
              obtain ⟨f1, f2, f3⟩ := bval.m hBa t3.2.2.2
              have ha := adds_eq h2.1 (nI (bv x (p + 3 * c))) (nI (bv x (p + 3 * c + 1))) (nI (bv x (p + 3 * c + 2))) h10
              obtain ⟨τ, hτ⟩ : ∃ τ, τ = gpi (gpi (gpi (gpi (gpi a 60 (n + c) (nI (bv x (p + 3 * c)))) 60 (10 + (n + c)) (nI (bv x (p + 3 * c + 1)))) 60 (20 + (n + c)) (nI (bv x (p + 3 * c + 2)))) 60 (30 + (n + c)) (-1)) 59 6 (nI (n + c + 1)) := ⟨_, rfl⟩
              rw [← hτ] at ha
              have r1 : ∀ c' j, τ.1 c' j = if c' = 59 ∧ j = 6 then nI (n + c + 1) else if c' = 60 ∧ j = 30 + (n + c) then -1 else if c' = 60 ∧ j = 20 + (n + c) then nI (bv x (p + 3 * c + 2)) else if c' = 60 ∧ j = 10 + (n + c) then nI (bv x (p + 3 * c + 1)) else if c' = 60 ∧ j = n + c then nI (bv x (p + 3 * c)) else a.1 c' j := fun c' j => by
                rw [hτ, gpi_at, gpi_at, gpi_at, gpi_at, gpi_at]
              refine ⟨(c + 1, true, τ), ?_, fun _ => ⟨rfl, by omega⟩, fun q => Bool.noConfusion q, fun j hj => ?_, ⟨?_, fun j hj => ?_⟩, hF.tr ?_⟩
              · rw [first]
                unfold f_M_citizens_j111 f_M_citizens_j167
                have i0 : (x (p + 3 * c)).toInt32 = nI (bv x (p + 3 * c)) := (congrArg Int64.toInt32 c3).trans (lNi _)
                have i1 : (x (p + 3 * c + 1)).toInt32 = nI (bv x (p + 3 * c + 1)) := (congrArg Int64.toInt32 d3).trans (lNi _)
                have i2 : (x (p + 3 * c + 2)).toInt32 = nI (bv x (p + 3 * c + 2)) := (congrArg Int64.toInt32 f3).trans (lNi _)
                simp (disch := omega) only [litE, i_eq32, m3, nI_add, gltE, n10, ↓reduceIte, gix_nI, nI_clamp, nI_add, x0, x1, x2, tc, bindE, i0, i1, i2, ha]
                rfl
              · by_cases e : j = c
                · rw [e]
                  exact ⟨h10, t3⟩
                · exact h1 j (by omega)
              · rw [r1, if_pos ⟨rfl, rfl⟩]
                rfl
              · have hj' : j < n + (c + 1) := hj
                rw [r1, r1, r1, r1]
                by_cases e : j = n + c
                · subst e
                  rw [if_neg (by omega), if_neg (by omega), if_neg (by omega), if_neg (by omega), if_pos ⟨rfl, rfl⟩, if_neg (by omega), if_neg (by omega), if_neg (by omega), if_pos ⟨rfl, rfl⟩, if_neg (by omega), if_neg (by omega), if_pos ⟨rfl, rfl⟩, if_neg (by omega), if_pos ⟨rfl, rfl⟩]
                  unfold xK xE xP xB
                  have e6 : n + c - n = c := by omega
                  rw [if_neg (show ¬ n + c < n by omega), if_neg (show ¬ n + c < n by omega), if_neg (show ¬ n + c < n by omega), if_neg (show ¬ n + c < n by omega), e6]
                  exact ⟨rfl, rfl, rfl, rfl⟩
                · rw [if_neg (by omega), if_neg (by omega), if_neg (by omega), if_neg (by omega), if_neg (by omega), if_neg (by omega), if_neg (by omega), if_neg (by omega), if_neg (by omega), if_neg (by omega), if_neg (by omega), if_neg (by omega), if_neg (by omega), if_neg (by omega), if_neg (by omega), if_neg (by omega), if_neg (by omega), if_neg (by omega), if_neg (by omega), if_neg (by omega)]
                  exact h2.2 j (by omega)
              · rw [hτ]
                have p60 : ∀ j, j < 40 → cCm 60 j = true := fun j hj => by
                  unfold cCm
                  simp [hj]
                exact (((((Fr.rf _ a).pi (p60 _ (by omega))).pi (p60 _ (by omega))).pi (p60 _ (by omega))).pi (p60 _ (by omega))).pi rfl
            · refine ⟨(c, false, a), ?_, fun q => Bool.noConfusion q, fun _ => fail fun q => t3 q.2, h1, h2, hF⟩
              rw [first]
              unfold f_M_citizens_j111 f_M_citizens_j166 f_M_citizens_j167
              simp (disch := omega) only [litE, i_eq32, m3, nI_add, gltE, n10, ↓reduceIte, gix_nI, nI_clamp, nI_add, x0, x1, x2, tc, bindE, bI_f]
          · refine ⟨(c, false, a), ?_, fun q => Bool.noConfusion q, fun _ => fail fun q => h10 q.1, h1, h2, hF⟩
            have g10 : 10 ≤ n + c := by omega
            have hnc : n + c ≤ 20 := by omega
            have hq3 : ¬ ((nI z - nI 3 - nI (3 * c)) < nI p) := by rw [hsub]; omega
            simp (disch := omega) only [f_M_citizens_L69, f_M_citizens_j110, litE, bI_t, n10, ↓reduceIte, nI_leI, q1, gix_nI, nI_clamp, hBa.2.1, m3, hq3, h2.1, g10]
            exact kk (nI 0) a rfl
        · refine ⟨(c, false, a), ?_, fun q => Bool.noConfusion q, fun _ => fail fun q => q3 q.2.1, h1, h2, hF⟩
          have hq3 : (nI z - nI 3 - nI (3 * c)) < nI p := by rw [hsub]; exact q3
          simp (disch := omega) only [f_M_citizens_L69, f_M_citizens_j110, litE, bI_t, n10, ↓reduceIte, nI_leI, q1, gix_nI, nI_clamp, hBa.2.1, m3, hq3]
          exact kk (nI 0) a rfl
  · rintro fu ⟨c, fl, a⟩ ⟨g1, g2, h1, h2, hF⟩
    simp only at g1 g2 h1 h2 hF
    cases fl with
    | false =>
      refine ⟨c, a, ?_, g2 rfl, h2, hF⟩
      simp (maxSteps := 2000000) (disch := omega) only [f_M_citizens_L69, gupE, gltE, gllE, litE, litLE, bindE, ↓reduceIte, gsi_at, gsi_l2, gsl_at, gsl_i1, upd_at, updL_at, Nat.reduceEqDiff, gix_nI, nI_clamp, bI_0, bI_gzb, Bool.true_eq_false, Bool.false_eq_true]
    | true =>
      have := g1 rfl
      omega
theorem Tcit_0 {σ : gS} {d z k : Nat} {x : Nat → Int64} {v : Int32} (hB : BRow σ d z x) (hk : k ≤ 10) (hv : hasb z v (nI 3) = false) : f_T_citizens_L57 gfu (nI k) (47 + 2 * d) (nI 0) v σ = some (nI 0, σ) := by
  have hh := has_gen (c := 47 + 2 * d) hB.2.1 hB.1 v (nI 3)
  rw [hv] at hh
  have : ∀ g, f_T_citizens_L57 (g + 1) (nI k) (47 + 2 * d) (nI 0) v σ = some (nI 0, σ) := by
    intro g
    by_cases q : k ≤ 0
    · simp (disch := omega) only [f_T_citizens_L57, litE, nI_leI, q, ↓reduceIte]
    · simp (disch := omega) only [f_T_citizens_L57, litE, nI_leI, q, ↓reduceIte, hh, bindE, bI_f]
  exact this 1999
theorem Mcit_f {σ : gS} {v2 : Int32} {d k : Nat} : f_M_citizens_L69 gfu (nI d) v2 (nI k) (nI 0) (nI 0) σ = some (nI 0, σ) := by
  have : ∀ g, f_M_citizens_L69 (g + 1) (nI d) v2 (nI k) (nI 0) (nI 0) σ = some (nI 0, σ) := by
    intro g
    simp only [f_M_citizens_L69, litE, ↓reduceIte]
  exact this 1999
theorem Mcit_big {σ : gS} {d z p k : Nat} {x : Nat → Int64} (hB : MRow σ d z x) (hd : d < 6) (hk : k ≤ 10) (hp : 60 < p) (hp2 : p < 2147483648) : f_M_citizens_L69 gfu (nI d) (nI p) (nI k) (nI 0) (nI 1) σ = some (nI 0, σ) := by
  have hz := hB.1
  have n10 : ¬ nI 1 = nI 0 := by decide
  have m3 : nI 3 * nI 0 = nI 0 := by decide
  have hlt : (nI z - nI 3 - nI 0) < nI p := by
    rw [i_lt, nI_toInt (by omega)]
    have : (nI z - nI 3 - nI 0).toInt = (z : Int) - 3 := by
      rw [Int32.toInt_sub, nI_subI (by omega) (by decide), nI_toInt (by decide)]
      have : ((z : Int) - (3 : Nat) - ((0 : Nat) : Int)).bmod (2 ^ 32) = (z : Int) - (3 : Nat) - ((0 : Nat) : Int) := Int.bmod_eq_of_le (by omega) (by omega)
      rw [this]
      omega
    rw [this]
    omega
  have : ∀ g, f_M_citizens_L69 (g + 1 + 1) (nI d) (nI p) (nI k) (nI 0) (nI 1) σ = some (nI 0, σ) := by
    intro g
    by_cases q : k ≤ 0
    · rw [show g + 1 + 1 = (g + 1) + 1 from rfl]
      generalize g + 1 = g'
      simp (disch := omega) only [f_M_citizens_L69, litE, n10, nI_leI, q, ↓reduceIte]
    · have e1 : f_M_citizens_L69 (g + 1 + 1) (nI d) (nI p) (nI k) (nI 0) (nI 1) σ = f_M_citizens_L69 (g + 1) (nI d) (nI p) (nI k) (nI 0) (nI 0) σ := by
        generalize g + 1 = g'
        have j : f_M_citizens_j110 (fun v1 v2 v3 v4 v5 σ => f_M_citizens_L69 g' v1 v2 v3 v4 v5 σ) (nI d) (nI p) (nI k) (nI 0) σ = f_M_citizens_L69 g' (nI d) (nI p) (nI k) (nI 0) (nI 0) σ := by
          unfold f_M_citizens_j110 f_M_citizens_j111 f_M_citizens_j166 f_M_citizens_j167
          simp only [litE, gltE, ↓reduceIte]
        rw [← j]
        simp (disch := omega) only [f_M_citizens_L69, litE, n10, nI_leI, q, ↓reduceIte, gix_nI, nI_clamp, hB.2.1, m3, hlt]
      rw [e1]
      simp only [f_M_citizens_L69, litE, ↓reduceIte]
  exact this 1998
theorem ag_citizens (v1 v2 v3 : Int32) : Agr (f_T_citizens v1 v2 v3) (f_M_citizens v1 v2 v3) := by
  intro σ hR
  have hR0 := hR
  obtain ⟨n, K, E, P, B, F, W, D, m, hP, hT, hL, hC, hLe, hPi, hW, hS, h0⟩ := hR
  have hn := hP.1.1
  have hm := hW.1.1
  unfold f_T_citizens f_M_citizens
  cases hv : inb v1 6 with
  | false =>
    refine ⟨-nI 1, σ, σ, ?_, ?_, hR0⟩
    · rw [show f_T_within v1 6 = some (bI false) from w3_f hv (by decide), bindE, if_pos (by decide)]
      rfl
    · rw [isShelf_eq, hv, bindE, if_pos (by decide)]
      rfl
  | true =>
    obtain ⟨d, hd, rfl⟩ := inb_of hv (by omega)
    have hw1 : f_T_within (nI d) 6 = some (bI true) := w3_t hv (by decide)
    have hs1 : f_M_isShelf (nI d) = some (bI true) := by rw [isShelf_eq, hv]
    by_cases hk : 1 ≤ v3.toInt ∧ v3.toInt ≤ 10
    · obtain ⟨k, hk2, rfl⟩ := nonneg_nI (v := v3) (by omega)
      rw [nI_toInt (by omega)] at hk
      have k1 : ¬ nI k < 1 := by
        intro q
        have := (nI_ltI (a := k) (b := 1) (by omega) (by omega)).mp q
        omega
      have k10 : nI k ≤ 10 := (nI_leI (a := k) (b := 10) (by omega) (by omega)).mpr (by omega)
      have hmk : f_M_within (nI k).toInt64 1 10 = some (bI true) := by
        have := Mwithin_i (nI k) (a := 1) (b := 10) (by decide) (by decide)
        rw [nI_toInt (by omega), decide_eq_true (show ((1 : Nat) : Int) ≤ (k : Int) by omega), decide_eq_true (show (k : Int) ≤ ((10 : Nat) : Int) by omega)] at this
        exact this
      rcases id (hS d hd) with ⟨s1, s2⟩ | ⟨w, hw, s1, s2, s3⟩ | ⟨s, z, ⟨hs, hz⟩, ⟨s1, s2, s3⟩, ⟨s4, s5⟩, s6⟩
      · -- nothing there: none came
        refine ⟨nI 0, σ, σ, ?_, ?_, hR0⟩
        · rw [hw1, bindE, if_neg (by decide), if_neg k1, if_pos k10, if_pos (gix_nI hd (by decide)), gshc_nI hd, s1, if_pos (show nI 0 = 0 from rfl)]
          rfl
        · rw [hs1, bindE, if_neg (by decide), hmk, bindE, if_neg (by decide), if_pos (gix_nI hd (by decide)), nI_clamp (show d < 2 ^ 31 by omega), s2, if_pos (show (-1 : Int32) < 0 by decide)]
          unfold f_M_citizens_j44
          rw [if_pos (gix_nI hd (by decide)), nI_clamp (show d < 2 ^ 31 by omega), s2, if_neg (show ¬ (-1 : Int32) = 50 by decide)]
          exact Mcit_f (σ := _) (v2 := v2) (d := d) (k := k)
      · have n12 : ¬ nI 1 = 2 := by decide
        have w0 : ¬ nI w < 0 := nI_pos (by omega)
        have w50 : ¬ nI w = 50 := by
          intro q
          have := (nI_eq (a := w) (b := 50) (by omega) (by omega)).mp q
          omega
        refine ⟨-nI 12, σ, σ, ?_, ?_, hR0⟩
        · rw [hw1, bindE, if_neg (by decide), if_neg k1, if_pos k10, if_pos (gix_nI hd (by decide)), gshc_nI hd, s1, if_neg (show ¬ nI 1 = 0 by decide)]
          unfold f_Sh_isOfBytes
          rw [s1, if_neg n12, bindE, if_pos (by decide)]
          rfl
        · rw [hs1, bindE, if_neg (by decide), hmk, bindE, if_neg (by decide), if_pos (gix_nI hd (by decide)), nI_clamp (show d < 2 ^ 31 by omega), s3, if_neg w0, if_pos (gix_nI hd (by decide)), if_neg w50]
          rfl
      · by_cases hs0 : s = 0
        · subst hs0
          have hB : BRow σ d z (fun i => σ.2 78 (60 * d + i)) := ⟨hz, s3, s5, fun i hi => ⟨(s6 i hi).1, rfl, (s6 i hi).2 rfl⟩⟩
          have hT0 : ∀ X, f_T_citizens_L57 gfu (nI k) (47 + 2 * d) (nI 0) v2 σ = X → (f_T_within (nI d) (6)).bind (fun q1 => if q1 = 0 then some ((-1), σ) else if nI k < (1) then some ((-1), σ) else if nI k ≤ (10) then if gix (nI d) 6 then if (σ.1 (gshc (nI d)) 1) = 0 then some ((0), σ) else (f_Sh_isOfBytes (gshc (nI d)) σ).bind fun q7 => if q7 = 0 then some ((-12), σ) else f_T_citizens_L57 gfu (nI k) (gshc (nI d)) (0) v2 σ else none else some ((-1), σ)) = X := by
            intro X hX
            rw [hw1, bindE, if_neg (by decide), if_neg k1, if_pos k10, if_pos (gix_nI hd (by decide)), gshc_nI hd, s1, if_neg (show ¬ nI 2 = 0 by decide)]
            unfold f_Sh_isOfBytes
            rw [s1, s2, if_pos (show nI 2 = 2 from rfl), if_pos (show nI 0 = 0 from rfl), bindE, if_neg (by decide), ← hX]
            rfl
          have hM0 : ∀ τ X, τ.1 76 d = nI 50 → (if v2 < 0 then some (nI 0, τ) else f_M_citizens_L69 gfu (nI d) v2 (nI k) (nI 0) (nI 1) τ) = X → (f_M_isShelf (nI d)).bind (fun q1 => if q1 = 0 then some ((-1), τ) else (f_M_within ((nI k).toInt64) (1 : Int64) (10 : Int64)).bind fun q3 => if q3 = 0 then some ((-1), τ) else if gix (nI d) 6 then if (τ.1 76 (nI d).toNatClampNeg) < 0 then f_M_citizens_j44 (nI d) v2 (nI k) τ else if gix (nI d) 6 then if (τ.1 76 (nI d).toNatClampNeg) = (50) then f_M_citizens_j44 (nI d) v2 (nI k) τ else some ((-12), τ) else none else none) = X := by
            intro τ X h76 hX
            rw [hs1, bindE, if_neg (by decide), hmk, bindE, if_neg (by decide), if_pos (gix_nI hd (by decide)), nI_clamp (show d < 2 ^ 31 by omega), h76, if_neg (show ¬ nI 50 < 0 by decide), if_pos (gix_nI hd (by decide)), if_pos (show nI 50 = 50 from rfl)]
            unfold f_M_citizens_j44
            rw [if_pos (gix_nI hd (by decide)), nI_clamp (show d < 2 ^ 31 by omega), h76, if_pos (show nI 50 = 50 from rfl), ← hX]
            by_cases q : v2 < 0
            · rw [if_pos q, if_pos q]
              exact Mcit_f (σ := _) (v2 := v2) (d := d) (k := k)
            · rw [if_neg q, if_neg q]
              rfl
          by_cases hv0 : v2.toInt < 0
          · have hlt : v2 < 0 := by
              show v2 < nI 0
              rw [lt0_iff]
              exact hv0
            refine ⟨nI 0, σ, σ, hT0 _ (Tcit_0 hB (by omega) ?_), hM0 σ _ s4 (by rw [if_pos hlt]), hR0⟩
            unfold hasb
            exact decide_eq_false (by omega)
          · obtain ⟨p, hp, rfl⟩ := nonneg_nI (v := v2) (by omega)
            have hlt : ¬ nI p < 0 := nI_pos (by omega)
            by_cases hbig : 60 < p
            · refine ⟨nI 0, σ, σ, hT0 _ (Tcit_0 hB (by omega) ?_), hM0 σ _ s4 (by rw [if_neg hlt]; exact Mcit_big hB.m hd (by omega) hbig hp), hR0⟩
              unfold hasb
              rw [nI_toInt (by omega), nI_toInt (by decide)]
              exact decide_eq_false (by omega)
            · have hPT : PT σ n K E P B := ⟨hP.1.2.1, fun c hc => ⟨(hP.2.1 c hc).1, (hP.2.1 c hc).2.1⟩⟩
              obtain ⟨r, τ, a1, a2, a3, a4⟩ := Tcit_L (p := p) (k := k) hB hd hPT hn (by omega) (by omega)
              have hPR : PR τ n K E P B := ⟨(a4.1 59 6 rfl).trans hP.1.2.2, fun c hc => by
                rw [a4.1 60 _ rfl, a4.1 60 _ rfl, a4.1 60 _ rfl, a4.1 60 _ rfl]
                exact (hP.2.1 c hc).2.2⟩
              have n47 : ∀ k, cCt (47 + 2 * d) k = false := fun k => by
                unfold cCt
                simp only [Bool.or_eq_false_iff, Bool.and_eq_false_iff, beq_eq_false_iff_ne]
                omega
              have hBt : MRow τ d z (fun i => σ.2 78 (60 * d + i)) := hB.m.sy (fun k => a4.1 77 k rfl) (fun k => a4.2 78 k rfl)
              obtain ⟨r', υ, c1, c2, c3, c4⟩ := Mcit_L (p := p) (k := k) hBt hd hPR hn (by omega) (by omega)
              have hrr : r' = r := c2.eq a2
              subst hrr
              have hr10 : n + r' ≤ 10 := by
                by_cases e : r' = 0
                · omega
                · have := (a2.2.1 (r' - 1) (by omega)).1
                  omega
              have hF1 : Fr (inT [1]) σ υ := (a4.sub fun c k q => by
                cases e : cCt c k with
                | false => rfl
                | true =>
                  unfold cCt at e
                  simp only [Bool.or_eq_true, Bool.and_eq_true, beq_iff_eq] at e
                  rcases e with (((rfl | rfl) | rfl) | rfl) | ⟨rfl, rfl⟩ <;> exact absurd q (by first | decide | (unfold inT; rw [comp_1 rfl]; decide))).tr (c4.sub fun c k q => by
                cases e : cCm c k with
                | false => rfl
                | true =>
                  unfold cCm at e
                  simp only [Bool.or_eq_true, Bool.and_eq_true, beq_iff_eq] at e
                  rcases e with ⟨rfl, -⟩ | ⟨rfl, rfl⟩ <;> exact absurd q (by first | decide | (unfold inT; rw [comp_1 rfl]; decide)))
              have t60 : ∀ k, 40 ≤ k → υ.1 60 k = σ.1 60 k := fun k hk => by
                rw [c4.1 60 k (by unfold cCm; simp; omega), a4.1 60 k rfl]
              have t1 : ∀ k, k ≠ 6 → υ.1 1 k = σ.1 1 k := fun k hk => by
                rw [c4.1 1 k rfl, a4.1 1 k (by unfold cCt; simp [hk])]
              refine ⟨nI r', τ, υ, hT0 _ a1, hM0 τ _ ((a4.1 76 d rfl).trans s4) (by rw [if_neg hlt]; exact c1), n + r', _, _, _, _, F, W, D, m, ⟨⟨hr10, ?_, c3.1⟩, fun c hc => ⟨(a3.2 c hc).1, ?_, c3.2 c hc⟩, ?_, ?_, ?_⟩, kTap hF1 rfl hT, kLw hF1 rfl hL, (kChg hF1 rfl hC).mono (by omega), (kLed hF1 rfl hLe).mono (by omega), (kPic hF1 rfl hPi).mono (by omega), kWrd hF1 rfl hW, kShv hF1 rfl hS, k0 hF1 rfl h0⟩
              · rw [c4.1 1 6 rfl]
                exact a3.1
              · rw [c4.1 2 c rfl, c4.1 3 c rfl, c4.1 4 c rfl, c4.1 5 c rfl]
                exact (a3.2 c hc).2
              · rw [t1 7 (by decide), t60 40 (by decide)]
                exact hP.2.2.1
              · rw [t1 8 (by decide), t60 41 (by decide)]
                exact hP.2.2.2.1
              · rw [t1 9 (by decide), t60 42 (by decide)]
                exact hP.2.2.2.2
        · have w0 : ¬ nI (50 + s) < 0 := nI_pos (by omega)
          have w50 : ¬ nI (50 + s) = 50 := by
            intro q
            have := (nI_eq (a := 50 + s) (b := 50) (by omega) (by omega)).mp q
            omega
          have sn : ¬ nI s = 0 := by
            intro q
            have := (nI_eq (a := s) (b := 0) (by omega) (by omega)).mp q
            omega
          refine ⟨-nI 12, σ, σ, ?_, ?_, hR0⟩
          · rw [hw1, bindE, if_neg (by decide), if_neg k1, if_pos k10, if_pos (gix_nI hd (by decide)), gshc_nI hd, s1, if_neg (show ¬ nI 2 = 0 by decide)]
            unfold f_Sh_isOfBytes
            rw [s1, s2, if_pos (show nI 2 = 2 from rfl), if_neg sn, bindE, if_pos (by decide)]
            rfl
          · rw [hs1, bindE, if_neg (by decide), hmk, bindE, if_neg (by decide), if_pos (gix_nI hd (by decide)), nI_clamp (show d < 2 ^ 31 by omega), s4, if_neg w0, if_pos (gix_nI hd (by decide)), if_neg w50]
            rfl
    · refine ⟨-nI 1, σ, σ, ?_, ?_, hR0⟩
      · rw [hw1, bindE, if_neg (by decide)]
        by_cases q : v3 < 1
        · rw [if_pos q]
          rfl
        · rw [if_neg q, if_neg]
          · rfl
          · intro q2
            have q' : ¬ v3 < nI 1 := q
            have q2' : v3 ≤ nI 10 := q2
            rw [i_lt, nI_toInt (by decide)] at q'
            rw [i_le, nI_toInt (by decide)] at q2'
            omega
      · have hmk : f_M_within v3.toInt64 1 10 = some (bI false) := by
          have := Mwithin_i v3 (a := 1) (b := 10) (by decide) (by decide)
          rw [show (decide (((1 : Nat) : Int) ≤ v3.toInt) && decide (v3.toInt ≤ ((10 : Nat) : Int))) = false by
            rw [← Bool.decide_and]
            exact decide_eq_false (by omega)] at this
          exact this
        rw [hs1, bindE, if_neg (by decide), hmk, bindE, if_pos (by decide)]
        rfl
