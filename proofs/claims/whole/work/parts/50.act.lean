/-! pure: act agrees -/
def cNt (c k : Nat) : Bool := (c == 43) && (k == 3) || c == 45
def cMt (c k : Nat) : Bool := (c == 59) && (k == 33) || c == 75
theorem nt_fr (b : Nat) (σ : gS) : Fr cNt σ (nt b σ) := by
  unfold nt
  split
  · exact ((Fr.rf _ σ).pi (by simp [cNt])).pi rfl
  · exact (Fr.rf _ σ).pi rfl
theorem nts_fr : ∀ (l : List Nat) (σ : gS), Fr cNt σ (nts l σ)
  | [], σ => Fr.rf _ σ
  | b :: r, σ => (nt_fr b σ).tr (nts_fr r (nt b σ))
theorem mt_fr (b : Nat) (σ : gS) : Fr cMt σ (mt b σ) := by
  unfold mt
  split
  · exact ((Fr.rf _ σ).pi (by simp [cMt])).pi rfl
  · exact (Fr.rf _ σ).pi rfl
theorem mts_fr : ∀ (l : List Nat) (σ : gS), Fr cMt σ (mts l σ)
  | [], σ => Fr.rf _ σ
  | b :: r, σ => (mt_fr b σ).tr (mts_fr r (mt b σ))
theorem nts_tr : ∀ (l : List Nat) {σ : gS} {b k i : Nat}, Wst σ b k i → i + l.length < 1000 → ∀ j, (nts l σ).1 45 j = if i ≤ j ∧ j < i + l.length ∧ j < 24 then nI (l.getD (j - i) 0) else σ.1 45 j
  | [], σ, b, k, i, h, hl, j => by
    rw [if_neg]
    · rfl
    · show ¬ (i ≤ j ∧ j < i + 0 ∧ j < 24)
      omega
  | c :: r, σ, b, k, i, h, hl, j => by
    have hl' : i + (r.length + 1) < 1000 := hl
    show (nts r (nt c σ)).1 45 j = if i ≤ j ∧ j < i + (r.length + 1) ∧ j < 24 then _ else _
    rw [nts_tr r (h.nt c (by omega)) (by omega) j]
    have e : (nt c σ).1 45 j = if i < 24 ∧ j = i then nI c else σ.1 45 j := by
      rw [nt_i h]
      split
      · rename_i q
        rw [gpi_at, if_neg (by omega), gpi_at]
        by_cases q2 : j = i
        · rw [if_pos ⟨rfl, q2⟩, if_pos ⟨q, q2⟩]
        · rw [if_neg (by omega), if_neg (by omega)]
      · rw [gpi_at, if_neg (by omega), if_neg (by omega)]
    by_cases q : i + 1 ≤ j ∧ j < i + 1 + r.length ∧ j < 24
    · rw [if_pos q, if_pos (by omega)]
      have : j - i = (j - (i + 1)) + 1 := by omega
      rw [this]
      rfl
    · rw [if_neg q, e]
      by_cases q2 : i < 24 ∧ j = i
      · rw [if_pos q2, if_pos (by omega)]
        have : j - i = 0 := by omega
        rw [this]
        rfl
      · rw [if_neg q2, if_neg (by omega)]
theorem mts_tr : ∀ (l : List Nat) {σ : gS} {b k i : Nat}, Mst σ b k i → i + l.length < 1000 → ∀ j, (mts l σ).1 75 j = if i ≤ j ∧ j < i + l.length ∧ j < 24 then nI (l.getD (j - i) 0) else σ.1 75 j
  | [], σ, b, k, i, h, hl, j => by
    rw [if_neg]
    · rfl
    · show ¬ (i ≤ j ∧ j < i + 0 ∧ j < 24)
      omega
  | c :: r, σ, b, k, i, h, hl, j => by
    have hl' : i + (r.length + 1) < 1000 := hl
    show (mts r (mt c σ)).1 75 j = if i ≤ j ∧ j < i + (r.length + 1) ∧ j < 24 then _ else _
    rw [mts_tr r (h.mt c (by omega)) (by omega) j]
    have e : (mt c σ).1 75 j = if i < 24 ∧ j = i then nI c else σ.1 75 j := by
      rw [mt_i h]
      split
      · rename_i q
        rw [gpi_at, if_neg (by omega), gpi_at]
        by_cases q2 : j = i
        · rw [if_pos ⟨rfl, q2⟩, if_pos ⟨q, q2⟩]
        · rw [if_neg (by omega), if_neg (by omega)]
      · rw [gpi_at, if_neg (by omega), if_neg (by omega)]
    by_cases q : i + 1 ≤ j ∧ j < i + 1 + r.length ∧ j < 24
    · rw [if_pos q, if_pos (by omega)]
      have : j - i = (j - (i + 1)) + 1 := by omega
      rw [this]
      rfl
    · rw [if_neg q, e]
      by_cases q2 : i < 24 ∧ j = i
      · rw [if_pos q2, if_pos (by omega)]
        have : j - i = 0 := by omega
        rw [this]
        rfl
      · rw [if_neg q2, if_neg (by omega)]
def al (a k : Nat) : List Nat := if a = 0 then fl k else if a = 1 then sl k k else if a = 2 then dl k k else tl k k
def av (a b k : Nat) (x : Int32) : Int32 := if a = 0 then fv b k x else if a = 1 then sv b k k x else if a = 2 then dv b k k x else tv b k k x
theorem tl_le (k fr : Nat) : (tl k fr).length ≤ 14 := by
  unfold tl
  have := sl_le k k
  have := dl_le k k
  split
  · rw [List.length_append, List.length_append]
    show 2 + _ + _ ≤ 14
    omega
  · split
    · rw [List.length_append, List.length_append]
      show 2 + _ + _ ≤ 14
      omega
    · rw [List.length_append, List.length_append]
      show 1 + _ + _ ≤ 14
      omega
theorem al_le (a k : Nat) : (al a k).length ≤ 14 := by
  unfold al
  have := fl_le k
  have := sl_le k k
  have := dl_le k k
  have := tl_le k k
  split
  · omega
  · split
    · omega
    · split <;> omega
theorem ag_act (v1 v2 x : Int32) : Agr (f_T_act v1 v2 x) (f_M_act v1 v2 x) := by
  intro σ hR
  have hR0 := hR
  obtain ⟨n, K, E, P, B, F, W, D, m, hP, hT, hL, hC, hLe, hPi, hW, hS, h0⟩ := hR
  obtain ⟨⟨hm, w1, w2⟩, w3, -⟩ := id hW
  -- the new R, from what both sides did
  have fin : ∀ (υ : gS) (r : Nat), r < 1000 → Fr (fun c k => (c == 43) && (k == 3 || k == 4) || c == 45 || (c == 59) && (k == 33 || k == 34 || k == 35) || c == 75) σ υ → υ.1 43 3 = nI r → υ.1 59 33 = nI r → (∀ i, i < r → i < 24 → υ.1 45 i = υ.1 75 i) → R υ := by
    intro υ r hr hF e1 e2 e3
    have hF7 : Fr (inT [7, 0]) σ υ := hF.sub fun c k q => by
      cases z : ((c == 43) && (k == 3 || k == 4) || c == 45 || (c == 59) && (k == 33 || k == 34 || k == 35) || c == 75) with
      | false => rfl
      | true =>
        simp only [Bool.or_eq_true, Bool.and_eq_true, beq_iff_eq] at z
        rcases z with ((⟨rfl, rfl | rfl⟩ | rfl) | ⟨rfl, (rfl | rfl) | rfl⟩) | rfl <;> exact absurd q (by first | decide | (rw [show inT [7, 0] 45 k = true from rfl]; decide) | (rw [show inT [7, 0] 75 k = true from rfl]; decide))
    refine ⟨n, K, E, P, B, F, W, D, m, kPeo hF7 rfl hP, kTap hF7 rfl hT, kLw hF7 rfl hL, kChg hF7 rfl hC, kLed hF7 rfl hLe, kPic hF7 rfl hPi, ⟨⟨hm, (hF.1 43 2 rfl).trans w1, (hF.1 59 30 rfl).trans w2⟩, fun i hi => ?_, r, by omega, e1, e2, e3⟩, kShv hF7 rfl hS, k0 hF7 rfl h0⟩
    obtain ⟨k, q1, q2, q3⟩ := w3 i hi
    exact ⟨k, q1, (hF.1 44 i rfl).trans q2, (hF.1 74 i rfl).trans q3⟩
  have hz : R (gpi (gpi σ 43 3 (nI 0)) 59 33 (nI 0)) := fin _ 0 (by omega) (((Fr.rf _ σ).pi rfl).pi rfl) (by rw [gpi_at, if_neg (by omega), gpi_at, if_pos ⟨rfl, rfl⟩]) (by rw [gpi_at, if_pos ⟨rfl, rfl⟩]) (fun i q => absurd q (Nat.not_lt_zero i))
  have u43 : (gpi σ 43 3 (nI 0)).1 43 2 = nI m := by
    rw [gpi_at, if_neg (by omega)]
    exact w1
  have u59 : (gpi (gpi σ 43 3 (nI 0)) 59 33 (nI 0)).1 59 30 = nI m := by
    rw [gpi_at, if_neg (by omega), gpi_at, if_neg (by omega)]
    exact w2
  have hT0 : f_T_act v1 v2 x σ = (f_T_within v1 (nI m)).bind fun q2 => if q2 = nI 0 then some (nI 0, gpi σ 43 3 (nI 0)) else (f_T_within v2 (nI 4)).bind fun q4 => if q4 = nI 0 then some (nI 0, gpi σ 43 3 (nI 0)) else if gix v1 50 then f_Wo_run 40 ((gpi (gpi σ 43 3 (nI 0)) 43 4 v1).1 44 v1.toNatClampNeg) v2 x (nI 0) (gpi (gpi σ 43 3 (nI 0)) 43 4 v1) else none := by
    have e : ∀ o : Option (Int32 × gS), (o.bind fun q => some (q.1, q.2)) = o := fun o => by cases o <;> rfl
    unfold f_T_act f_Wo_start
    rw [e, litE, gupE, u43]
    simp only [gupE, litE, e]
  have hM0 : ∀ τ, f_M_act v1 v2 x τ = (f_M_isBody v1 (gpi τ 59 33 (nI 0))).bind fun q2 => if q2 = nI 0 then some (nI 0, gpi τ 59 33 (nI 0)) else if gix v1 50 then (if v2 = nI 0 then f_M_fallsAs 5 ((gpi (gpi (gpi τ 59 33 (nI 0)) 59 34 ((gpi τ 59 33 (nI 0)).1 74 v1.toNatClampNeg)) 59 35 v1).1 59 34) x (gpi (gpi (gpi τ 59 33 (nI 0)) 59 34 ((gpi τ 59 33 (nI 0)).1 74 v1.toNatClampNeg)) 59 35 v1) else if v2 = nI 1 then f_M_saysAs 5 ((gpi (gpi (gpi τ 59 33 (nI 0)) 59 34 ((gpi τ 59 33 (nI 0)).1 74 v1.toNatClampNeg)) 59 35 v1).1 59 34) x (gpi (gpi (gpi τ 59 33 (nI 0)) 59 34 ((gpi τ 59 33 (nI 0)).1 74 v1.toNatClampNeg)) 59 35 v1) else if v2 = nI 2 then f_M_deniesAs 5 ((gpi (gpi (gpi τ 59 33 (nI 0)) 59 34 ((gpi τ 59 33 (nI 0)).1 74 v1.toNatClampNeg)) 59 35 v1).1 59 34) x (gpi (gpi (gpi τ 59 33 (nI 0)) 59 34 ((gpi τ 59 33 (nI 0)).1 74 v1.toNatClampNeg)) 59 35 v1) else if v2 = nI 3 then f_M_tellsAs 5 ((gpi (gpi (gpi τ 59 33 (nI 0)) 59 34 ((gpi τ 59 33 (nI 0)).1 74 v1.toNatClampNeg)) 59 35 v1).1 59 34) x (gpi (gpi (gpi τ 59 33 (nI 0)) 59 34 ((gpi τ 59 33 (nI 0)).1 74 v1.toNatClampNeg)) 59 35 v1) else some (nI 0, gpi (gpi (gpi τ 59 33 (nI 0)) 59 34 ((gpi τ 59 33 (nI 0)).1 74 v1.toNatClampNeg)) 59 35 v1)) else none := by
    intro τ
    have e : ∀ o : Option (Int32 × gS), (o.bind fun q => some (q.1, q.2)) = o := fun o => by cases o <;> rfl
    unfold f_M_act
    simp only [gupE, litE, e]
  rw [hT0]
  cases hv : inb v1 m with
  | false =>
    refine ⟨nI 0, gpi σ 43 3 (nI 0), gpi (gpi σ 43 3 (nI 0)) 59 33 (nI 0), ?_, ?_, hz⟩
    · simp (disch := omega) only [gupE, gltE, gllE, litE, litLE, bindE, ↓reduceIte, gsi_at, gsi_l2, gsl_at, gsl_i1, upd_at, updL_at, Nat.reduceEqDiff, gix_nI, nI_clamp, bI_0, bI_gzb, Bool.true_eq_false, Bool.false_eq_true, within_eq, hv]
    · rw [hM0]
      simp (disch := omega) only [gupE, gltE, gllE, litE, litLE, bindE, ↓reduceIte, gsi_at, gsi_l2, gsl_at, gsl_i1, upd_at, updL_at, Nat.reduceEqDiff, gix_nI, nI_clamp, bI_0, bI_gzb, Bool.true_eq_false, Bool.false_eq_true, isBody_eq u59 hm, hv]
  | true =>
    obtain ⟨b, hb, rfl⟩ := inb_of hv (by omega)
    obtain ⟨k, hk, k1, k2⟩ := w3 b hb
    cases hv2 : inb v2 4 with
    | false =>
      refine ⟨nI 0, gpi σ 43 3 (nI 0), gpi (gpi (gpi (gpi σ 43 3 (nI 0)) 59 33 (nI 0)) 59 34 (nI k)) 59 35 (nI b), ?_, ?_, ?_⟩
      · simp (disch := omega) only [gupE, gltE, gllE, litE, litLE, bindE, ↓reduceIte, gsi_at, gsi_l2, gsl_at, gsl_i1, upd_at, updL_at, Nat.reduceEqDiff, gix_nI, nI_clamp, bI_0, bI_gzb, Bool.true_eq_false, Bool.false_eq_true, within_eq, hv, hv2]
      · rw [hM0]
        have n0 : ¬ v2 = nI 0 := fun q => by rw [q] at hv2; exact absurd hv2 (by decide)
        have n1 : ¬ v2 = nI 1 := fun q => by rw [q] at hv2; exact absurd hv2 (by decide)
        have n2 : ¬ v2 = nI 2 := fun q => by rw [q] at hv2; exact absurd hv2 (by decide)
        have n3 : ¬ v2 = nI 3 := fun q => by rw [q] at hv2; exact absurd hv2 (by decide)
        simp (disch := omega) only [gupE, gltE, gllE, litE, litLE, bindE, ↓reduceIte, gsi_at, gsi_l2, gsl_at, gsl_i1, upd_at, updL_at, Nat.reduceEqDiff, gix_nI, nI_clamp, bI_0, bI_gzb, Bool.true_eq_false, Bool.false_eq_true, isBody_eq u59 hm, hv, n0, n1, n2, n3, k2]
      · exact fin _ 0 (by omega) (((((Fr.rf _ σ).pi rfl).pi rfl).pi rfl).pi rfl) (by rw [gpi_at, if_neg (by omega), gpi_at, if_neg (by omega), gpi_at, if_neg (by omega), gpi_at, if_pos ⟨rfl, rfl⟩]) (by rw [gpi_at, if_neg (by omega), gpi_at, if_neg (by omega), gpi_at, if_pos ⟨rfl, rfl⟩]) (fun i q => absurd q (Nat.not_lt_zero i))
    | true =>
      obtain ⟨a, ha, rfl⟩ := inb_of hv2 (by omega)
      have hal := al_le a k
      obtain ⟨ρ, hρ⟩ : ∃ ρ, ρ = gpi (gpi σ 43 3 (nI 0)) 43 4 (nI b) := ⟨_, rfl⟩
      have ρ1 : ∀ c j, ρ.1 c j = if c = 43 ∧ j = 4 then nI b else if c = 43 ∧ j = 3 then nI 0 else σ.1 c j := fun c j => by
        rw [hρ, gpi_at, gpi_at]
      have hW1 : Wst ρ b k 0 := ⟨⟨by omega, hk, by omega⟩, by rw [ρ1, if_pos ⟨rfl, rfl⟩], by rw [ρ1, if_neg (by omega), if_neg (by omega)]; exact k1, by rw [ρ1, if_neg (by omega), if_pos ⟨rfl, rfl⟩]⟩
      obtain ⟨τ, hτ⟩ : ∃ τ, τ = nts (al a k) ρ := ⟨_, rfl⟩
      have τF : Fr cNt ρ τ := by rw [hτ]; exact nts_fr _ _
      obtain ⟨π, hπ⟩ : ∃ π, π = gpi (gpi (gpi τ 59 33 (nI 0)) 59 34 (nI k)) 59 35 (nI b) := ⟨_, rfl⟩
      have π1 : ∀ c j, π.1 c j = if c = 59 ∧ j = 35 then nI b else if c = 59 ∧ j = 34 then nI k else if c = 59 ∧ j = 33 then nI 0 else τ.1 c j := fun c j => by
        rw [hπ, gpi_at, gpi_at, gpi_at]
      have hM1 : Mst π b k 0 := ⟨⟨by omega, hk, by omega⟩, by rw [π1, if_pos ⟨rfl, rfl⟩], by rw [π1, if_neg (by omega), if_pos ⟨rfl, rfl⟩], by rw [π1, if_neg (by omega), if_neg (by omega), if_pos ⟨rfl, rfl⟩]⟩
      have hWn := hW1.nts (al a k) (by omega)
      have hMn := hM1.mts (al a k) (by omega)
      have t59 : (gpi τ 59 33 (nI 0)).1 59 30 = nI m := by
        rw [gpi_at, if_neg (by omega), τF.1 59 30 rfl, ρ1, if_neg (by omega), if_neg (by omega)]
        exact w2
      have t74 : τ.1 74 b = nI k := by
        rw [τF.1 74 b rfl, ρ1, if_neg (by omega), if_neg (by omega)]
        exact k2
      refine ⟨av a b k x, τ, mts (al a k) π, ?_, ?_, ?_⟩
      · have e44 : ρ.1 44 b = nI k := hW1.2.2.1
        have run : f_Wo_run 40 (nI k) (nI a) x (nI 0) ρ = some (av a b k x, τ) := by
          rw [hτ]
          unfold av al
          have : a = 0 ∨ a = 1 ∨ a = 2 ∨ a = 3 := by omega
          rcases this with rfl | rfl | rfl | rfl
          · exact run_f (n := 38) hW1 (by omega) hk (by omega) x
          · exact run_s (n := 35) hW1 (by omega) hk (by omega) x
          · exact run_d (n := 37) hW1 (by omega) hk (by omega) x
          · exact run_t (n := 33) hW1 (by omega) hk (by omega) x
        simp (disch := omega) only [within_eq, hv, hv2, bindE, bI_0, Bool.true_eq_false, ↓reduceIte, gix_nI, nI_clamp]
        rw [← hρ, e44, run]
      · rw [hM0, isBody_eq t59 hm, hv]
        have e74 : (gpi τ 59 33 (nI 0)).1 74 b = nI k := by
          rw [gpi_at, if_neg (by omega)]
          exact t74
        have e34 : π.1 59 34 = nI k := hM1.2.2.1
        simp (disch := omega) only [bindE, bI_0, Bool.true_eq_false, ↓reduceIte, gix_nI, nI_clamp, e74]
        rw [← hπ, e34]
        unfold av al
        have : a = 0 ∨ a = 1 ∨ a = 2 ∨ a = 3 := by omega
        rcases this with rfl | rfl | rfl | rfl
        · rw [if_pos rfl]
          exact mfalls (n := 3) hM1 (by omega) hk x
        · rw [if_neg (by decide), if_pos rfl]
          exact msays (n := 2) hM1 (by omega) hk x
        · rw [if_neg (by decide), if_neg (by decide), if_pos rfl]
          exact mden (n := 3) hM1 (by omega) hk x
        · rw [if_neg (by decide), if_neg (by decide), if_neg (by decide), if_pos rfl]
          exact mtells (n := 3) hM1 (by omega) hk x
      · have mF := mts_fr (al a k) π
        refine fin _ (al a k).length (by omega) ?_ ?_ ?_ fun i h1 h2 => ?_
        · refine ((Fr.tr (υ := τ) ?_ (τF.sub fun c j q => ?_)).tr ?_).tr (mF.sub fun c j q => ?_)
          · rw [hρ]
            exact ((Fr.rf _ σ).pi rfl).pi rfl
          · simp only [cNt, Bool.or_eq_false_iff, Bool.and_eq_false_iff, beq_eq_false_iff_ne] at q ⊢
            omega
          · rw [hπ]
            exact (((Fr.rf _ τ).pi rfl).pi rfl).pi rfl
          · simp only [cMt, Bool.or_eq_false_iff, Bool.and_eq_false_iff, beq_eq_false_iff_ne] at q ⊢
            omega
        · rw [mF.1 43 3 rfl, π1, if_neg (by omega), if_neg (by omega), if_neg (by omega), hτ, hWn.2.2.2, Nat.zero_add]
        · rw [hMn.2.2.2, Nat.zero_add]
        · rw [mF.1 45 i rfl, π1, if_neg (by omega), if_neg (by omega), if_neg (by omega), hτ, nts_tr (al a k) hW1 (by omega) i, mts_tr (al a k) hM1 (by omega) i]
          rw [if_pos (by omega), if_pos (by omega)]
