/-! pure: days, judge agree -/
theorem w3_t {v : Int32} {w : Nat} (h : inb v w = true) (hw : w < 2147483648) : f_T_within v (nI w) = some (bI true) := by rw [← h]; exact within_eq v hw
theorem w3_f {v : Int32} {w : Nat} (h : inb v w = false) (hw : w < 2147483648) : f_T_within v (nI w) = some (bI false) := by rw [← h]; exact within_eq v hw
theorem m3_t {v : Int32} {w : Nat} (h : inb v (w + 1) = true) (hw : w < 2147483647) : f_M_within v.toInt64 (lN 0) (lN w) = some (bI true) := by rw [← h]; exact Mwithin0 v hw
theorem m3_f {v : Int32} {w : Nat} (h : inb v (w + 1) = false) (hw : w < 2147483647) : f_M_within v.toInt64 (lN 0) (lN w) = some (bI false) := by rw [← h]; exact Mwithin0 v hw
theorem ag_days (v1 v2 : Int32) : Agr (f_T_days v1 v2) (f_M_days v1 v2) := by
  intro σ hR0
  have hR := hR0
  obtain ⟨n, K, E, P, B, F, W, D, m, hP, hT, hL, hC, hLe, hPi, hW, hS, h0⟩ := hR
  obtain ⟨V, hV⟩ := hL.V
  have h : Ctx σ n K E P B F W D m V := ⟨hP, hV, hS⟩
  have hn := hP.1.1
  unfold f_T_days f_M_days
  cases hv : inb v1 6 with
  | false =>
    refine ⟨-nI 1, σ, σ, ?_, ?_, hR0⟩
    · rw [show f_T_within v1 6 = some (bI false) from w3_f hv (by decide), bindE, if_pos (show bI false = 0 from rfl)]
      rfl
    · rw [bytesIs_no hv, bindE, if_pos (show -nI 1 = -1 from rfl)]
      rfl
  | true =>
    obtain ⟨d, hd, rfl⟩ := inb_of hv (by omega)
    have hw1 : f_T_within (nI d) 6 = some (bI true) := w3_t hv (by decide)
    have hbn : ∃ r, f_M_bytesIs (nI d) σ = some r ∧ ¬ r = -1 := by
      rcases bytes_c hS hW.1.1 hd with ⟨r, hr | hr, -, -, e⟩ | ⟨z, x, -, -, e⟩
      · exact ⟨r, e, by rw [hr]; decide⟩
      · exact ⟨r, e, by rw [hr]; decide⟩
      · exact ⟨_, e, by decide⟩
    obtain ⟨r0, hr0, hr1⟩ := hbn
    cases hv2 : inb v2 3 with
    | false =>
      refine ⟨-nI 1, σ, σ, ?_, ?_, hR0⟩
      · rw [hw1, bindE, if_neg (by decide), show f_T_within v2 3 = some (bI false) from w3_f hv2 (by decide), bindE, if_pos (by decide)]
        rfl
      · rw [hr0, bindE, if_neg hr1, show f_M_within v2.toInt64 0 2 = some (bI false) from m3_f hv2 (by decide), bindE, if_pos (by decide)]
        rfl
    | true =>
      obtain ⟨w, hw, rfl⟩ := inb_of hv2 (by omega)
      have hw2 : f_T_within (nI w) 3 = some (bI true) := w3_t hv2 (by decide)
      have hm2 : f_M_within (nI w).toInt64 0 2 = some (bI true) := m3_t hv2 (by decide)
      rcases bytes_c hS hW.1.1 hd with ⟨r, hr, e1, e2, e3⟩ | ⟨z, x, hB, e1, e3⟩
      · refine ⟨r, σ, σ, ?_, ?_, hR0⟩
        · rw [hw1, bindE, if_neg (by decide), hw2, bindE, if_neg (by decide), if_pos (gix_nI hd (by decide)), gshc_nI hd, e1, bindE, if_pos (by decide), e2, bindE]
        · have le : ¬ 0 ≤ r := by rcases hr with rfl | rfl <;> decide
          have ne : ¬ r = -1 := by rcases hr with rfl | rfl <;> decide
          rw [e3, bindE, if_neg ne, hm2, bindE, if_neg (by decide), bindE, if_neg le, bindE]
      · obtain ⟨q, hq, p1, p2⟩ := prefix_ex (bval x z 6) 40
        obtain ⟨hs, hhs⟩ := day_sets n V K E P B W D x z (fun w d hw => sy_rg hP.pm hw) q (fun i hi => (bval.v hB (p1 i hi)).2.1)
        obtain ⟨τ, a1, a2⟩ := Tdays_L h hd hw hB hq p1 hhs
        have hBt := hB.fr hd a2
        have hCt := h.fr a2
        obtain ⟨υ, c1, c2⟩ := Mdays_L ⟨hCt.1.pm, hCt.2.1⟩ hd hw hBt.m hq p1 p2 hhs
        refine ⟨nI (dans w (dacc hs x q)), τ, υ, ?_, ?_, (hR0.frs a2).frs (fr_no c2 cSy_s)⟩
        · rw [hw1, bindE, if_neg (by decide), hw2, bindE, if_neg (by decide), if_pos (gix_nI hd (by decide)), gshc_nI hd, e1, bindE, if_neg (by decide), TdaysOn hB hq p1 p2, bindE, ← a1]
          rfl
        · rw [bytesIs_fr a2, e3, bindE, if_neg (by decide), hm2, bindE, if_neg (by decide), bindE, if_pos (by decide), ← c1]
          rfl
theorem Mrows_no {v : Int32} {σ : gS} (h : two v 6 = false) : f_M_rowsAre v σ = some (-nI 1) := by
  unfold f_M_rowsAre
  by_cases h0 : v.toInt < 0
  · have h' : v < 0 := by
      have := lt0_iff v
      show v < nI 0
      rw [this]
      exact h0
    rw [if_pos h']
    rfl
  · obtain ⟨j, hj, rfl⟩ := nonneg_nI (v := v) (by omega)
    have h' : ¬ nI j < 0 := nI_pos (by omega)
    rw [two_nI hj] at h
    have e1 : nI j / 10 = nI (j / 10) := pk_div (d := 10) (by omega) (by decide) (by decide)
    have e2 : grem (nI j) 10 = nI (j % 10) := grem_nI (d := 10) hj (by decide) (by decide)
    rw [if_neg h', e1, e2, isShelf_eq, inb_nI (by omega), bindE]
    by_cases q1 : j / 10 < 6
    · rw [decide_eq_true q1] at h ⊢
      have q2 : decide (j % 10 < 6) = false := by simpa using h
      rw [if_neg (by decide), isShelf_eq, inb_nI (by omega), q2, bindE, if_pos (by decide)]
      rfl
    · rw [decide_eq_false q1, if_pos (by decide)]
      rfl
/-- two shelves: both hold rows of bytes, or both sides refuse alike -/
theorem rows_c {σ : gS} {m a b : Nat} {v : Int32} (hS : Shv σ m) (hm : m ≤ 50) (ha : a < 6) (hb : b < 6) (h2 : two v 6 = true) (hq : v / nI 10 = nI a) (hr : grem v (nI 10) = nI b) :
    (∃ r, (r = -nI 11 ∨ r = -nI 12) ∧ f_T_areOfBytes v σ = some (nI 0) ∧ f_T_refusalOfTwo v σ = some r ∧ f_M_rowsAre v σ = some r) ∨
    (∃ z x y u, BRow σ a z x ∧ BRow σ b y u ∧ f_T_areOfBytes v σ = some (nI 1) ∧ f_M_rowsAre v σ = some (nI 1)) := by
  have hvv : ¬ v < 0 := by
    have h0 : 0 ≤ v.toInt := by
      unfold two at h2
      simp at h2
      omega
    intro q
    have := lt0_iff v
    rw [show (v < nI 0) = (v < 0) from rfl] at this
    rw [this] at q
    omega
  have hat : f_T_areTwo v 6 = some (bI true) := by rw [← h2]; exact areTwo_eq v (by decide)
  have hsa : f_M_isShelf (nI a) = some (bI true) := by rw [isShelf_eq, inb_nI (by omega), decide_eq_true ha]
  have hsb : f_M_isShelf (nI b) = some (bI true) := by rw [isShelf_eq, inb_nI (by omega), decide_eq_true hb]
  have hq' : v / 10 = nI a := hq
  have hr' : grem v 10 = nI b := hr
  have n0 : ¬ bI true = 0 := by decide
  unfold f_T_areOfBytes f_T_refusalOfTwo f_M_rowsAre
  rw [hat, bindE, if_neg n0, bindE, if_neg n0, if_neg hvv, hq', hr', hsa, bindE, if_neg n0, hsb, bindE, if_neg n0, if_pos (gix_nI ha (by decide)), gshc_nI ha, if_pos (gix_nI ha (by decide))]
  rcases bytes_c hS hm ha with ⟨r, hr, e1, e2, e3⟩ | ⟨z, x, hB, e1, e3⟩
  · left
    have le : ¬ 0 ≤ r := by rcases hr with rfl | rfl <;> decide
    refine ⟨r, hr, ?_, ?_, ?_⟩
    · rw [e1, bindE, if_pos (show nI 0 = 0 from rfl)]
      rfl
    · rw [e1, bindE, if_pos (show nI 0 = 0 from rfl), if_pos (gix_nI ha (by decide)), e2, bindE]
    · rw [e3, bindE, if_neg le, bindE]
  · rcases bytes_c hS hm hb with ⟨r, hr, f1, f2, f3⟩ | ⟨y, u, hB2, f1, f3⟩
    · left
      refine ⟨r, hr, ?_, ?_, ?_⟩
      · rw [e1, bindE, if_neg (show ¬ nI 1 = 0 by decide), if_pos (gix_nI hb (by decide)), gshc_nI hb, f1, bindE, if_pos (show nI 0 = 0 from rfl)]
        rfl
      · rw [e1, bindE, if_neg (show ¬ nI 1 = 0 by decide), if_pos (gix_nI hb (by decide)), gshc_nI hb, f2, bindE]
      · rw [e3, bindE, if_pos (show (0 : Int32) ≤ nI 1 by decide), f3, bindE]
    · right
      refine ⟨z, x, y, u, hB, hB2, ?_, ?_⟩
      · rw [e1, bindE, if_neg (show ¬ nI 1 = 0 by decide), if_pos (gix_nI hb (by decide)), gshc_nI hb, f1, bindE, if_neg (show ¬ nI 1 = 0 by decide)]
        rfl
      · rw [e3, bindE, if_pos (show (0 : Int32) ≤ nI 1 by decide), f3, bindE]
/-- day i is as told -/
def As (q : Nat) (hs : Nat → Nat) (u : Nat → Int64) (i : Nat) : Prop := i < q ∧ (u i).toInt = (hs i : Int)
/-- what judging answers -/
def Jd (q y : Nat) (hs : Nat → Nat) (u : Nat → Int64) (r : Int32) : Prop := (∃ j, j < y ∧ (∀ i, i < j → As q hs u i) ∧ ¬ As q hs u j ∧ r = nI j) ∨ ((∀ i, i < y → As q hs u i) ∧ r = -nI 2)
theorem Jd.eq {q y : Nat} {hs : Nat → Nat} {u : Nat → Int64} {r r' : Int32} (h : Jd q y hs u r) (h' : Jd q y hs u r') : r = r' := by
  rcases h with ⟨j, a1, a2, a3, a4⟩ | ⟨a1, a2⟩
  · rcases h' with ⟨i, b1, b2, b3, b4⟩ | ⟨b1, b2⟩
    · have : j = i := by
        rcases Nat.lt_or_ge j i with l | l
        · exact absurd (b2 j l) a3
        · rcases Nat.lt_or_ge i j with l2 | l2
          · exact absurd (a2 i l2) b3
          · omega
      rw [a4, b4, this]
    · exact absurd (b1 j a1) a3
  · rcases h' with ⟨i, b1, b2, b3, b4⟩ | ⟨b1, b2⟩
    · exact absurd (a1 i b1) b3
    · rw [a2, b2]
theorem told_c {σ : gS} {b y : Nat} {u : Nat → Int64} (hB : BRow σ b y u) {i h : Nat} (hi : i < y) (hh : h < 64) : (nI h = sml u y i) = ((u i).toInt = (h : Int)) := by
  apply propext
  rw [← Int32.toInt_inj, sml_int hB hi, nI_toInt (by omega)]
  exact eq_comm
theorem told_m {u : Int64} {h : Nat} (hh : h < 64) : (lg_cmp u (nI h).toInt64 = nI 0) = (u.toInt = (h : Int)) := by
  have e : (nI h).toInt64 = lN h := nI_l (by omega)
  rw [e]
  unfold lg_cmp
  by_cases h1 : u > lN h
  · rw [if_pos h1]
    have : ¬ u.toInt = (h : Int) := fun q => by
      have h2 : lN h < u := h1
      rw [Int64.lt_iff_toInt_lt, lN_tI (by omega), q] at h2
      omega
    simp [this]
    decide
  · rw [if_neg h1]
    by_cases h2 : u = lN h
    · rw [if_pos h2, h2, lN_tI (by omega)]
      simp
      rfl
    · rw [if_neg h2]
      have : ¬ u.toInt = (h : Int) := fun q => h2 (Int64.toInt_inj.mp (by rw [q, lN_tI (by omega)]))
      simp [this]
      decide
theorem Tjudge_L {σ : gS} {n : Nat} {K E P : Nat → Nat} {B : Nat → Int32} {F W D m : Nat} {V : VT} (h : Ctx σ n K E P B F W D m V) {a b z y q : Nat} {x u : Nat → Int64} (ha : a < 6) (hb : b < 6) (hB : BRow σ a z x) (hB2 : BRow σ b y u) (hq : q ≤ 40) (h1 : ∀ i, i < q → bval x z 6 i) {hs : Nat → Nat} (hhs : ∀ i, i < q → Bits (hs i) (Hp n (sy V K E P B (bv x i) (min 99 (D + i))) K W (fun _ => True))) :
    ∃ r τ, f_T_judge_L54 gfu (47 + 2 * a) (47 + 2 * b) (nI q) (nI 0) σ = some (r, τ) ∧ Jd q y hs u r ∧ Frs σ τ := by
  refine loopG (fun fu i (s : gS) => f_T_judge_L54 fu (47 + 2 * a) (47 + 2 * b) (nI q) (nI i) s) (fun o => ∃ r τ, o = some (r, τ) ∧ Jd q y hs u r ∧ Frs σ τ) (fun i s => Frs σ s ∧ ∀ j, j < i → As q hs u j) y 0 σ (by have := hB2.1; omega) (by omega) ⟨Fr.rf _ _, fun j hj => absurd hj (Nat.not_lt_zero j)⟩ ?_ ?_
  · rintro fu i s hi ⟨hF, hp⟩
    have hy := hB2.1
    have hC := h.fr hF
    have hBa := hB.fr ha hF
    have hBb := hB2.fr hb hF
    have g1 : ¬ y ≤ i := by omega
    by_cases hiq : i < q
    · obtain ⟨b1, b2, b3, b4⟩ := bval.v hBa (h1 i hiq)
      have hD : D < 100 := h.1.2.2.2.2.1
      obtain ⟨s1, τ, e1, e2, e3⟩ := Cday hC (w := bv x i) (dd := min 99 (D + i)) b2 (by omega) (hhs i hiq)
      have hr : Rg n (sy V K E P B (bv x i) (min 99 (D + i))) K W := sy_rg h.1.pm b2
      have hx6 : hs i < 64 := (hhs i hiq).lt6 (Hp.lt hr)
      have hBt := hBb.fr hb e3
      have sm1 := small_eq hBa (show i < 1000 by omega)
      have sm2 := small_eq hBt (show i < 1000 by omega)
      rw [b1] at sm1
      have hday : f_T_dayBehind (nI i) s = some (nI (min 99 (D + i))) := by
        unfold f_T_dayBehind
        rw [hC.1.2.2.2.2.2.1, nI_add]
        exact congrArg some (gmin_nI (a := 99) (by omega) (by omega))
      have tc := told_c hBt hi hx6
      by_cases has : (u i).toInt = (hs i : Int)
      · left
        refine ⟨τ, ?_, hF.tr e3, fun j hj => ?_⟩
        · simp (maxSteps := 2000000) (disch := omega) only [f_T_judge_L54, gupE, gltE, gllE, litE, litLE, bindE, ↓reduceIte, gsi_at, gsi_l2, gsl_at, gsl_i1, upd_at, updL_at, Nat.reduceEqDiff, gix_nI, nI_clamp, bI_0, bI_gzb, Bool.true_eq_false, Bool.false_eq_true, hBb.2.1, nI_leI, g1, nI_ltI, hiq, sm1, hday, e1, e2, sm2, tc, has, nI_add]
        · by_cases e : j = i
          · subst e
            exact ⟨hiq, has⟩
          · exact hp j (by omega)
      · right
        refine ⟨nI i, τ, ?_, Or.inl ⟨i, hi, hp, fun q => has q.2, rfl⟩, hF.tr e3⟩
        simp (maxSteps := 2000000) (disch := omega) only [f_T_judge_L54, gupE, gltE, gllE, litE, litLE, bindE, ↓reduceIte, gsi_at, gsi_l2, gsl_at, gsl_i1, upd_at, updL_at, Nat.reduceEqDiff, gix_nI, nI_clamp, bI_0, bI_gzb, Bool.true_eq_false, Bool.false_eq_true, hBb.2.1, nI_leI, g1, nI_ltI, hiq, sm1, hday, e1, e2, sm2, tc, has]
    · right
      refine ⟨nI i, s, ?_, Or.inl ⟨i, hi, hp, fun q => hiq q.1, rfl⟩, hF⟩
      simp (maxSteps := 2000000) (disch := omega) only [f_T_judge_L54, gupE, gltE, gllE, litE, litLE, bindE, ↓reduceIte, gsi_at, gsi_l2, gsl_at, gsl_i1, upd_at, updL_at, Nat.reduceEqDiff, gix_nI, nI_clamp, bI_0, bI_gzb, Bool.true_eq_false, Bool.false_eq_true, hBb.2.1, nI_leI, g1, nI_ltI, hiq]
  · rintro fu s ⟨hF, hp⟩
    have hBb := hB2.fr hb hF
    refine ⟨-nI 2, s, ?_, Or.inr ⟨hp, rfl⟩, hF⟩
    have g1 : nI y ≤ nI y := Int32.le_refl _
    simp (maxSteps := 2000000) (disch := omega) only [f_T_judge_L54, gupE, gltE, gllE, litE, litLE, bindE, ↓reduceIte, gsi_at, gsi_l2, gsl_at, gsl_i1, upd_at, updL_at, Nat.reduceEqDiff, gix_nI, nI_clamp, bI_0, bI_gzb, Bool.true_eq_false, Bool.false_eq_true, hBb.2.1, g1]
theorem Mfirst {σ : gS} {n : Nat} {K E P : Nat → Nat} {B : Nat → Int32} {F W D : Nat} {V : VT} (h : CtM σ n K E P B F W D V) {a b z y q : Nat} {x u : Nat → Int64} {v : Int32} (hqv : v / nI 10 = nI a) (hrv : grem v (nI 10) = nI b) (ha : a < 6) (hb : b < 6) (hB : MRow σ a z x) (hB2 : MRow σ b y u) (hq : q ≤ 40) (h1 : ∀ i, i < q → bval x z 6 i) (h2 : q = 40 ∨ ¬ bval x z 6 q) {hs : Nat → Nat} (hhs : ∀ i, i < q → Bits (hs i) (Hp n (sy V K E P B (bv x i) (min 99 (D + i))) K W (fun _ => True))) :
    ∃ r τ, f_M_firstFalse v σ = some (r, τ) ∧ Jd q y hs u r ∧ Fr cSy σ τ := by
  unfold f_M_firstFalse
  simp only [litE]
  refine loopG (fun fu i (s : gS) => f_M_firstFalse_L2 fu v (nI i) s) (fun o => ∃ r τ, o = some (r, τ) ∧ Jd q y hs u r ∧ Fr cSy σ τ) (fun i s => Fr cSy σ s ∧ ∀ j, j < i → As q hs u j) y 0 σ (by have := hB2.1; omega) (by omega) ⟨Fr.rf _ _, fun j hj => absurd hj (Nat.not_lt_zero j)⟩ ?_ ?_
  · rintro fu i s hi ⟨hF, hp⟩
    have hy := hB2.1
    have hC := h.sy hF
    have hBa : MRow s a z x := hB.sy (fun k => hF.1 77 k rfl) (fun k => hF.2 78 k rfl)
    have hBb : MRow s b y u := hB2.sy (fun k => hF.1 77 k rfl) (fun k => hF.2 78 k rfl)
    have g1 : ¬ y ≤ i := by omega
    have hdm := MdayMany ha hBa hq h1 h2
    by_cases hiq : i < q
    · have g2 : ¬ q ≤ i := by omega
      obtain ⟨τ, e1, e3⟩ := Mday hC ha hBa (h1 i hiq) (hhs i hiq)
      have hr : Rg n (sy V K E P B (bv x i) (min 99 (D + i))) K W := sy_rg h.1 (bval.m hBa (h1 i hiq)).1
      have hx6 : hs i < 64 := (hhs i hiq).lt6 (Hp.lt hr)
      have ex : s.2 78 (60 * b + i) = u i := (hBb.2.2 i (by omega)).1
      have tm := told_m (u := u i) hx6
      by_cases has : (u i).toInt = (hs i : Int)
      · left
        refine ⟨τ, ?_, hF.tr e3, fun j hj => ?_⟩
        · simp (maxSteps := 2000000) (disch := omega) only [f_M_firstFalse_L2, gupE, gltE, gllE, litE, litLE, bindE, ↓reduceIte, gsi_at, gsi_l2, gsl_at, gsl_i1, upd_at, updL_at, Nat.reduceEqDiff, gix_nI, nI_clamp, bI_0, bI_gzb, Bool.true_eq_false, Bool.false_eq_true, hqv, hrv, hBb.2.1, nI_leI, g1, hdm, g2, i_eq32, nI_add, ex, e1, tm, has]
        · by_cases e : j = i
          · subst e
            exact ⟨hiq, has⟩
          · exact hp j (by omega)
      · right
        refine ⟨nI i, τ, ?_, Or.inl ⟨i, hi, hp, fun q => has q.2, rfl⟩, hF.tr e3⟩
        simp (maxSteps := 2000000) (disch := omega) only [f_M_firstFalse_L2, gupE, gltE, gllE, litE, litLE, bindE, ↓reduceIte, gsi_at, gsi_l2, gsl_at, gsl_i1, upd_at, updL_at, Nat.reduceEqDiff, gix_nI, nI_clamp, bI_0, bI_gzb, Bool.true_eq_false, Bool.false_eq_true, hqv, hrv, hBb.2.1, nI_leI, g1, hdm, g2, i_eq32, nI_add, ex, e1, tm, has]
    · have g2 : q ≤ i := by omega
      right
      refine ⟨nI i, s, ?_, Or.inl ⟨i, hi, hp, fun q => hiq q.1, rfl⟩, hF⟩
      simp (maxSteps := 2000000) (disch := omega) only [f_M_firstFalse_L2, gupE, gltE, gllE, litE, litLE, bindE, ↓reduceIte, gsi_at, gsi_l2, gsl_at, gsl_i1, upd_at, updL_at, Nat.reduceEqDiff, gix_nI, nI_clamp, bI_0, bI_gzb, Bool.true_eq_false, Bool.false_eq_true, hqv, hrv, hBb.2.1, nI_leI, g1, hdm, g2]
  · rintro fu s ⟨hF, hp⟩
    have hBb : MRow s b y u := hB2.sy (fun k => hF.1 77 k rfl) (fun k => hF.2 78 k rfl)
    refine ⟨-nI 2, s, ?_, Or.inr ⟨hp, rfl⟩, hF⟩
    have g1 : nI y ≤ nI y := Int32.le_refl _
    simp (maxSteps := 2000000) (disch := omega) only [f_M_firstFalse_L2, gupE, gltE, gllE, litE, litLE, bindE, ↓reduceIte, gsi_at, gsi_l2, gsl_at, gsl_i1, upd_at, updL_at, Nat.reduceEqDiff, gix_nI, nI_clamp, bI_0, bI_gzb, Bool.true_eq_false, Bool.false_eq_true, hqv, hrv, hBb.2.1, g1]
theorem rowsAre_fr {σ τ : gS} (hF : Frs σ τ) (v : Int32) : f_M_rowsAre v τ = f_M_rowsAre v σ := by
  unfold f_M_rowsAre
  simp only [bytesIs_fr hF]
theorem ag_judge (v : Int32) : Agr (f_T_judge v) (f_M_judge v) := by
  intro σ hR0
  have hR := hR0
  obtain ⟨n, K, E, P, B, F, W, D, m, hP, hT, hL, hC, hLe, hPi, hW, hS, h0⟩ := hR
  obtain ⟨V, hV⟩ := hL.V
  have h : Ctx σ n K E P B F W D m V := ⟨hP, hV, hS⟩
  have hn := hP.1.1
  unfold f_T_judge f_M_judge
  cases h2 : two v 6 with
  | false =>
    refine ⟨-nI 1, σ, σ, ?_, ?_, hR0⟩
    · rw [show f_T_areTwo v 6 = some (bI false) by rw [← h2]; exact areTwo_eq v (by decide), bindE, if_pos (show bI false = 0 from rfl)]
      rfl
    · rw [Mrows_no h2, bindE, if_neg (by decide), bindE]
  | true =>
    obtain ⟨a, b, ha, hb, -, hqv, hrv⟩ := two_of (by decide) h2
    have hat : f_T_areTwo v 6 = some (bI true) := by rw [← h2]; exact areTwo_eq v (by decide)
    have hq' : v / 10 = nI a := hqv
    have hr' : grem v 10 = nI b := hrv
    rcases rows_c hS hW.1.1 ha hb h2 hqv hrv with ⟨r, hr, e1, e2, e3⟩ | ⟨z, x, y, u, hB, hB2, e1, e3⟩
    · refine ⟨r, σ, σ, ?_, ?_, hR0⟩
      · rw [hat, bindE, if_neg (by decide), e1, bindE, if_pos (by decide), e2, bindE]
      · have le : ¬ 0 ≤ r := by rcases hr with rfl | rfl <;> decide
        rw [e3, bindE, if_neg le, bindE]
    · obtain ⟨q, hq, p1, p2⟩ := prefix_ex (bval x z 6) 40
      obtain ⟨hs, hhs⟩ := day_sets n V K E P B W D x z (fun w d hw => sy_rg hP.pm hw) q (fun i hi => (bval.v hB (p1 i hi)).2.1)
      obtain ⟨r, τ, a1, a2, a3⟩ := Tjudge_L h ha hb hB hB2 hq p1 hhs
      have hBt := hB.fr ha a3
      have hBt2 := hB2.fr hb a3
      have hCt := h.fr a3
      obtain ⟨r', υ, c1, c2, c3⟩ := Mfirst ⟨hCt.1.pm, hCt.2.1⟩ hqv hrv ha hb hBt.m hBt2.m hq p1 p2 hhs
      refine ⟨r, τ, υ, ?_, ?_, (hR0.frs a3).frs (fr_no c3 cSy_s)⟩
      · rw [hat, bindE, if_neg (by decide), e1, bindE, if_neg (by decide), hq', hr', if_pos (gix_nI ha (by decide)), if_pos (gix_nI hb (by decide)), gshc_nI ha, gshc_nI hb, TdaysOn hB hq p1 p2, bindE, ← a1]
        rfl
      · rw [rowsAre_fr a3, e3, bindE, if_pos (by decide), c1, bindE, a2.eq c2]
