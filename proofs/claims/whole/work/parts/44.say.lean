/-! pure: what one says; all say -/
/-- the law in force: its meaning told -/
def LwV (σ : gS) : Option ((Nat → Int32) → Int32) → Prop
  | none => σ.1 6 4 = nI 0 ∧ σ.1 59 10 = -1 ∧ σ.1 6 5 = nI 0
  | some V => ∃ (len tn : Nat), (0 < len ∧ len ≤ 128 ∧ σ.1 6 4 = nI len) ∧ (tn ≤ 120 ∧ σ.1 59 10 = nI tn) ∧
    (∀ f g : Nat → Int32, (∀ i, i < 6 → f i = g i) → V f = V g) ∧
    ((σ.1 6 5 = nI 0 ∧ ∀ f g : Nat → Int32, (∀ i, i < 6 → i ≠ 4 → f i = g i) → V f = V g) ∨ σ.1 6 5 = nI 1) ∧
    (∀ τ : gS, τ.1 6 4 = σ.1 6 4 → (∀ k, τ.1 7 k = σ.1 7 k) → (∀ k, τ.1 8 k = σ.1 8 k) → ∃ υ, f_Law_value τ = some (V (τ.1 10), υ) ∧ Fr (fun c k => (c == 6) && (k == 3) || c == 9) τ υ) ∧
    (∀ τ : gS, (∀ k, τ.1 65 k = σ.1 65 k) → ∃ υ, f_M_workOut (nI 0) (nI tn) τ = some (V (τ.1 66), υ) ∧ Fr (fun c k => (c == 59) && (k == 11 || k == 12 || k == 13 || k == 14 || k == 15)) τ υ)
theorem Lw.V {σ : gS} (h : Lw σ) : ∃ V, LwV σ V := by
  rcases h with h | ⟨V, h⟩
  · exact ⟨none, h⟩
  · exact ⟨some V, h⟩
theorem LwV.ag {σ τ : gS} {V : Option ((Nat → Int32) → Int32)} (h : LwV σ V) (g : ∀ c k, cLw c k = true → τ.1 c k = σ.1 c k) : LwV τ V := by
  cases V <;> unfold LwV at h ⊢ <;> simp only [g 6 4 rfl, g 6 5 rfl, g 59 10 rfl, g 7 _ rfl, g 8 _ rfl, g 65 _ rfl] <;> exact h
theorem kLwV {T : List Nat} {σ τ : gS} (hF : Fr (inT T) σ τ) (hn : T.contains 3 = false) {V : Option ((Nat → Int32) → Int32)} (h : LwV σ V) : LwV τ V := h.ag fun c k q => hF.1 c k (inT_no hn (comp_3 q))
def clI (x : Int32) : Nat := if x.toInt < 0 then 0 else if 5 < x.toInt then 5 else x.toInt.toNat
theorem clI_lt (x : Int32) : clI x < 6 := by
  unfold clI
  split
  · omega
  · split <;> omega
theorem clI_eq (x : Int32) : gmax (nI 0) (gmin (nI 5) x) = nI (clI x) := by
  unfold gmax gmin clI
  by_cases h : x.toInt < 0
  · have h1 : x < nI 5 := by rw [i_lt, nI_toInt (by decide)]; omega
    have h2 : ¬ nI 0 < x := by rw [i_lt, nI_toInt (by decide)]; omega
    rw [if_pos h1, if_neg h2, if_pos h]
  · by_cases h5 : 5 < x.toInt
    · have h1 : ¬ x < nI 5 := by rw [i_lt, nI_toInt (by decide)]; omega
      rw [if_neg h1, if_neg h, if_pos h5]
      decide
    · rw [if_neg h, if_neg h5]
      obtain ⟨j, hj, rfl⟩ := nonneg_nI (v := x) (by omega)
      rw [nI_toInt (by omega)] at h5 ⊢
      rw [Int.toNat_natCast]
      simp (disch := omega) only [nI_ltI]
      by_cases e : j < 5
      · rw [if_pos e]
        by_cases e0 : 0 < j
        · rw [if_pos (by rw [nI_ltI (by omega) (by omega)]; exact e0)]
        · have : j = 0 := by omega
          subst this
          rw [if_neg (by decide)]
      · have : j = 5 := by omega
        subst this
        decide
theorem clI_M (x : Int32) (σ : gS) : f_M_saysBy_j126 x σ = some (nI (clI x), σ) := by
  unfold f_M_saysBy_j126 clI
  simp only [litE, i_le, nI_toInt (show 0 < 2 ^ 31 by decide), nI_toInt (show 5 < 2 ^ 31 by decide)]
  by_cases h : x.toInt < 0
  · rw [if_neg (by omega), if_pos h]
  · rw [if_pos (by omega), if_neg h]
    by_cases h5 : 5 < x.toInt
    · rw [if_neg (by omega), if_pos h5]
    · rw [if_pos (by omega), if_neg h5]
      obtain ⟨j, hj, rfl⟩ := nonneg_nI (v := x) (by omega)
      rw [nI_toInt (by omega)] at h5 ⊢
      rw [Int.toNat_natCast]
def nms (w e k p d c : Nat) (i : Nat) : Int32 := if i = 0 then nI w else if i = 1 then nI e else if i = 2 then nI k else if i = 3 then nI p else if i = 4 then nI d else nI c
def spk (V : Option ((Nat → Int32) → Int32)) (b : Int32) (w e k p d c : Nat) : Nat := if 0 ≤ b.toInt then b.toInt.toNat else match V with
  | none => if e < 6 then min 5 (w + 1) else w
  | some V => clI (V (nms w e k p d c))
theorem bok_c {b : Int32} (h : bok b) : (b = -1 ∧ b.toInt < 0 ∧ (b < nI 0) = True) ∨ ∃ w, w < 6 ∧ b = nI w ∧ b.toInt = (w : Int) ∧ (b < nI 0) = False := by
  rcases h with rfl | ⟨w, hw, rfl⟩
  · left
    decide
  · right
    exact ⟨w, hw, rfl, nI_toInt (by omega), not_lt0 w (by omega)⟩
theorem spk_lt {V : Option ((Nat → Int32) → Int32)} {b : Int32} (h : bok b) {w e k p d c : Nat} (hw : w < 6) : spk V b w e k p d c < 6 := by
  unfold spk
  rcases bok_c h with ⟨-, h1, -⟩ | ⟨v, h1, -, h2, -⟩
  · rw [if_neg (by omega)]
    cases V with
    | none =>
      show (if e < 6 then min 5 (w + 1) else w) < 6
      split <;> omega
    | some V => exact clI_lt _
  · rw [if_pos (by omega), h2]
    omega
def cSp (c k : Nat) : Bool := (c == 6) && (k == 3) || c == 9 || c == 10
theorem Tspeech {σ : gS} {n : Nat} {K E P : Nat → Nat} {B : Nat → Int32} {F W D : Nat} {V : Option ((Nat → Int32) → Int32)} (hP : Peo σ n K E P B F W D) (hV : LwV σ V) {c k e w d : Nat} (hc : c < n) (hk : k < 8) (he : e < 13) (hw : w < 6) (hd : d < 100) :
    ∃ τ, f_Isl_speechAs (nI c) (nI k) (nI e) (nI w) (nI d) σ = some (nI (spk V (B c) w e k (P c) d c), τ) ∧ Fr cSp σ τ := by
  obtain ⟨⟨hn, h1, -⟩, hp, -⟩ := id hP
  obtain ⟨⟨-, -, hpc, hb⟩, ⟨-, -, c4, c5⟩, -⟩ := hp c hc
  have wc : inb (nI c) n = true := by
    rw [inb_nI (by omega)]
    exact decide_eq_true hc
  unfold f_Isl_speechAs
  rcases bok_c hb with ⟨b1, b2, b3⟩ | ⟨v, b1, b2, b3, b4⟩
  · cases V with
    | none =>
      obtain ⟨l1, -, -⟩ := id hV
      refine ⟨σ, ?_, Fr.rf _ _⟩
      have e1 : spk none (B c) w e k (P c) d c = if e < 6 then min 5 (w + 1) else w := by
        unfold spk
        rw [if_neg (by omega)]
      rw [e1]
      simp (disch := omega) only [gupE, gltE, gllE, litE, litLE, bindE, ↓reduceIte, gsi_at, gsi_l2, gsl_at, gsl_i1, upd_at, updL_at, Nat.reduceEqDiff, gix_nI, nI_clamp, bI_0, bI_gzb, Bool.true_eq_false, Bool.false_eq_true, h1, within_eq, wc, c5, b3, l1, nI_ltI, nI_add, gmin_nI]
      by_cases e6 : e < 6
      · simp only [e6, ↓reduceIte]
      · simp only [e6, ↓reduceIte]
    | some V =>
      obtain ⟨len, tn, ⟨q1, q2, q3⟩, -, hdep, -, hval, -⟩ := id hV
      have e1 : spk (some V) (B c) w e k (P c) d c = clI (V (nms w e k (P c) d c)) := by
        unfold spk
        rw [if_neg (by omega)]
      have l0 : ¬ len = 0 := by omega
      obtain ⟨ρ, hρ⟩ : ∃ ρ, ρ = gpi (gpi (gpi (gpi (gpi (gpi σ 10 0 (nI w)) 10 1 (nI e)) 10 2 (nI k)) 10 3 (nI (P c))) 10 4 (nI d)) 10 5 (nI c) := ⟨_, rfl⟩
      have o : ∀ a i, a ≠ 10 → ρ.1 a i = σ.1 a i := fun a i q => by
        rw [hρ]
        simp only [gsi_at, q, ↓reduceIte]
      obtain ⟨υ, v1, v2⟩ := hval ρ (o 6 4 (by decide)) (fun i => o 7 i (by decide)) (fun i => o 8 i (by decide))
      have hfr : Fr cSp σ ρ := by
        rw [hρ]
        exact ((((((Fr.rf _ σ).pi rfl).pi rfl).pi rfl).pi rfl).pi rfl).pi rfl
      refine ⟨υ, ?_, hfr.tr (v2.sub fun a i q => ?_)⟩
      · have hnm : V (ρ.1 10) = V (nms w e k (P c) d c) := by
          refine hdep _ _ fun i hi => ?_
          rw [hρ]
          have : i = 0 ∨ i = 1 ∨ i = 2 ∨ i = 3 ∨ i = 4 ∨ i = 5 := by omega
          rcases this with rfl | rfl | rfl | rfl | rfl | rfl <;> simp only [gsi_at, upd_at, nms, Nat.reduceEqDiff, ↓reduceIte]
        rw [e1, ← hnm, ← clI_eq]
        have l0' : ¬ nI len = nI 0 := by rw [nI_eq (by omega) (by omega)]; exact l0
        simp (disch := omega) only [gupE, gltE, gllE, litE, litLE, bindE, ↓reduceIte, gsi_at, gsi_l2, gsl_at, gsl_i1, upd_at, updL_at, Nat.reduceEqDiff, gix_nI, nI_clamp, bI_0, bI_gzb, Bool.true_eq_false, Bool.false_eq_true, h1, within_eq, wc, c5, c4, b3, q3, l0']
        rw [← hρ, v1]
        rfl
      · simp only [cSp] at q
        cases h3 : ((a == 6) && (i == 3) || a == 9) with
        | false => rfl
        | true => simp [h3] at q
  · refine ⟨σ, ?_, Fr.rf _ _⟩
    have e1 : spk V (B c) w e k (P c) d c = v := by
      unfold spk
      rw [if_pos (by omega), b3]
      rfl
    rw [e1]
    simp (disch := omega) only [gupE, gltE, gllE, litE, litLE, bindE, ↓reduceIte, gsi_at, gsi_l2, gsl_at, gsl_i1, upd_at, updL_at, Nat.reduceEqDiff, gix_nI, nI_clamp, bI_0, bI_gzb, Bool.true_eq_false, Bool.false_eq_true, h1, within_eq, wc, c5, b4]
    rw [b2]
/-- the reference's half of the citizens -/
def PM (σ : gS) (n : Nat) (K E P : Nat → Nat) (B : Nat → Int32) (F W D : Nat) : Prop :=
  (n ≤ 10 ∧ σ.1 59 6 = nI n) ∧ (∀ c, c < n → (K c < 8 ∧ E c < 13 ∧ P c < 100 ∧ bok (B c)) ∧ σ.1 60 c = nI (K c) ∧ σ.1 60 (10 + c) = nI (E c) ∧ σ.1 60 (20 + c) = nI (P c) ∧ σ.1 60 (30 + c) = B c) ∧
  (F < 6 ∧ σ.1 60 40 = nI F) ∧ (W < 3 ∧ σ.1 60 41 = nI W) ∧ (D < 100 ∧ σ.1 60 42 = nI D)
theorem Peo.pm {σ : gS} {n : Nat} {K E P : Nat → Nat} {B : Nat → Int32} {F W D : Nat} (h : Peo σ n K E P B F W D) : PM σ n K E P B F W D :=
  ⟨⟨h.1.1, h.1.2.2⟩, fun c hc => ⟨(h.2.1 c hc).1, (h.2.1 c hc).2.2⟩, ⟨h.2.2.1.1, h.2.2.1.2.2⟩, ⟨h.2.2.2.1.1, h.2.2.2.1.2.2⟩, ⟨h.2.2.2.2.1, h.2.2.2.2.2.2⟩⟩
theorem PM.ag {σ τ : gS} {n : Nat} {K E P : Nat → Nat} {B : Nat → Int32} {F W D : Nat} (h : PM σ n K E P B F W D) (g6 : τ.1 59 6 = σ.1 59 6) (g : ∀ k, τ.1 60 k = σ.1 60 k) : PM τ n K E P B F W D := by
  unfold PM at h ⊢
  simp only [g6, g]
  exact h
def cSa (c k : Nat) : Bool := (c == 59) && (k == 11 || k == 12 || k == 13 || k == 14 || k == 15) || c == 66
theorem Msays {σ : gS} {n : Nat} {K E P : Nat → Nat} {B : Nat → Int32} {F W D : Nat} {V : Option ((Nat → Int32) → Int32)} (hP : PM σ n K E P B F W D) (hV : LwV σ V) {c w d : Nat} (hc : c < n) (hw : w < 6) (hd : d < 100) :
    ∃ τ, f_M_saysBy (nI c) (nI w) (nI d) σ = some (nI (spk V (B c) w (E c) (K c) (P c) d c), τ) ∧ Fr cSa σ τ := by
  obtain ⟨⟨hn, h1⟩, hp, -⟩ := id hP
  obtain ⟨⟨hkc, hec, hpc, hb⟩, c1, c2, c3, c4⟩ := hp c hc
  unfold f_M_saysBy
  rcases bok_c hb with ⟨b1, b2, b3⟩ | ⟨v, b1, b2, b3, b4⟩
  · cases V with
    | none =>
      obtain ⟨-, l2, -⟩ := id hV
      refine ⟨σ, ?_, Fr.rf _ _⟩
      have e1 : spk none (B c) w (E c) (K c) (P c) d c = if E c < 6 then min 5 (w + 1) else w := by
        unfold spk
        rw [if_neg (by omega)]
      have hcl : ∀ j, j < 100 → clI (nI j) = min 5 j := by
        intro j hj
        unfold clI
        rw [nI_toInt (by omega), if_neg (by omega)]
        by_cases q : 5 < (j : Int)
        · rw [if_pos q]
          omega
        · rw [if_neg q]
          omega
      have hm : ((-1 : Int32) < nI 0) = True := by decide
      rw [e1]
      unfold f_M_saysBy_j43
      simp (disch := omega) only [gupE, gltE, gllE, litE, litLE, bindE, ↓reduceIte, gsi_at, gsi_l2, gsl_at, gsl_i1, upd_at, updL_at, Nat.reduceEqDiff, gix_nI, nI_clamp, bI_0, bI_gzb, Bool.true_eq_false, Bool.false_eq_true, nI_add, c4, b3, c2, nI_ltI, l2, clI_M, hcl]
      by_cases e6 : E c < 6
      · simp only [e6, ↓reduceIte, neg1_lt]
      · simp only [e6, ↓reduceIte, neg1_lt]
        rw [Nat.min_eq_right (by omega)]
    | some V =>
      obtain ⟨len, tn, -, ⟨q1, q2⟩, hdep, -, -, hval⟩ := id hV
      have e1 : spk (some V) (B c) w (E c) (K c) (P c) d c = clI (V (nms w (E c) (K c) (P c) d c)) := by
        unfold spk
        rw [if_neg (by omega)]
      obtain ⟨ρ, hρ⟩ : ∃ ρ, ρ = gpi (gpi (gpi (gpi (gpi (gpi σ 66 0 (nI w)) 66 1 (nI (E c))) 66 2 (nI (K c))) 66 3 (nI (P c))) 66 4 (nI d)) 66 5 (nI c) := ⟨_, rfl⟩
      have o : ∀ a i, a ≠ 66 → ρ.1 a i = σ.1 a i := fun a i q => by
        rw [hρ]
        simp only [gsi_at, q, ↓reduceIte]
      obtain ⟨υ, v1, v2⟩ := hval ρ (fun i => o 65 i (by decide))
      have hfr : Fr cSa σ ρ := by
        rw [hρ]
        exact ((((((Fr.rf _ σ).pi rfl).pi rfl).pi rfl).pi rfl).pi rfl).pi rfl
      refine ⟨υ, ?_, hfr.tr (v2.sub fun a i q => ?_)⟩
      · have hnm : V (ρ.1 66) = V (nms w (E c) (K c) (P c) d c) := by
          refine hdep _ _ fun i hi => ?_
          rw [hρ]
          have : i = 0 ∨ i = 1 ∨ i = 2 ∨ i = 3 ∨ i = 4 ∨ i = 5 := by omega
          rcases this with rfl | rfl | rfl | rfl | rfl | rfl <;> simp only [gsi_at, upd_at, nms, Nat.reduceEqDiff, ↓reduceIte]
        rw [e1, ← hnm]
        have hj : ∀ s0, f_M_saysBy_j43 (nI c) (nI w) (nI d) s0 σ = some (nI (clI (V (ρ.1 66))), υ) := by
          intro s0
          unfold f_M_saysBy_j43
          have hm := not_lt0 tn (by omega)
          simp (disch := omega) only [gupE, gltE, gllE, litE, litLE, bindE, ↓reduceIte, gsi_at, gsi_l2, gsl_at, gsl_i1, upd_at, updL_at, Nat.reduceEqDiff, gix_nI, nI_clamp, bI_0, bI_gzb, Bool.true_eq_false, Bool.false_eq_true, nI_add, c1, c2, c3, q2, hm]
          rw [← hρ, v1]
          simp only [bindE, clI_M]
        simp (disch := omega) only [gupE, gltE, gllE, litE, litLE, bindE, ↓reduceIte, gsi_at, gsi_l2, gsl_at, gsl_i1, upd_at, updL_at, Nat.reduceEqDiff, gix_nI, nI_clamp, bI_0, bI_gzb, Bool.true_eq_false, Bool.false_eq_true, nI_add, c4, b3, c2, hj, ite_self]
      · simp only [cSa] at q
        cases h3 : ((a == 59) && (i == 11 || i == 12 || i == 13 || i == 14 || i == 15)) with
        | false => rfl
        | true => simp [h3] at q
  · refine ⟨σ, ?_, Fr.rf _ _⟩
    have e1 : spk V (B c) w (E c) (K c) (P c) d c = v := by
      unfold spk
      rw [if_pos (by omega), b3]
      rfl
    rw [e1]
    simp (disch := omega) only [gupE, gltE, gllE, litE, litLE, bindE, ↓reduceIte, gsi_at, gsi_l2, gsl_at, gsl_i1, upd_at, updL_at, Nat.reduceEqDiff, gix_nI, nI_clamp, bI_0, bI_gzb, Bool.true_eq_false, Bool.false_eq_true, nI_add, c4, b4]
    rw [b2]
/-- what all say if w falls on day d -/
def sy (V : Option ((Nat → Int32) → Int32)) (K E P : Nat → Nat) (B : Nat → Int32) (w d j : Nat) : Nat := spk V (B j) w (E j) (K j) (P j) d j
def cSy (c k : Nat) : Bool := cSa c k || c == 67
theorem sub_or {f g : Nat → Nat → Bool} (c k : Nat) (h : (f c k || g c k) = false) : f c k = false := by
  cases e : f c k with
  | false => rfl
  | true => rw [e] at h; exact h
theorem MallSay {σ : gS} {n : Nat} {K E P : Nat → Nat} {B : Nat → Int32} {F W D : Nat} {V : Option ((Nat → Int32) → Int32)} (hP : PM σ n K E P B F W D) (hV : LwV σ V) {w d : Nat} (hw : w < 6) (hd : d < 100) :
    ∃ τ, f_M_allSay (nI w) (nI d) σ = some τ ∧ MS τ n (sy V K E P B w d) K W ∧ Fr cSy σ τ := by
  have hn := hP.1.1
  unfold f_M_allSay
  simp only [litE]
  have keep : ∀ τ, Fr cSy σ τ → PM τ n K E P B F W D ∧ LwV τ V := fun τ hF => ⟨hP.ag (hF.1 59 6 rfl) (fun k => hF.1 60 k rfl), hV.ag fun c k q => hF.1 c k (by
    unfold cLw at q
    unfold cSy cSa
    simp only [Bool.or_eq_true, Bool.and_eq_true, beq_iff_eq, Bool.or_eq_false_iff, Bool.and_eq_false_iff, beq_eq_false_iff_ne] at q ⊢
    omega)⟩
  refine loopG (fun fu i a => f_M_allSay_L2 fu (nI w) (nI d) (nI i) a) (fun o => ∃ τ, o = some τ ∧ MS τ n (sy V K E P B w d) K W ∧ Fr cSy σ τ) (fun i a => Fr cSy σ a ∧ ∀ j, j < i → a.1 67 j = nI (sy V K E P B w d j)) n 0 σ (by omega) (by omega) ⟨Fr.rf _ _, fun j h => absurd h (Nat.not_lt_zero j)⟩ ?_ ?_
  · rintro fu i a hi ⟨hF, hs⟩
    left
    obtain ⟨hP1, hV1⟩ := keep a hF
    obtain ⟨τ, e1, e2⟩ := Msays hP1 hV1 hi hw hd
    have h1 : ¬ n ≤ i := by omega
    refine ⟨gpi τ 67 i (nI (sy V K E P B w d i)), ?_, (hF.tr (e2.sub fun c k q => sub_or (g := fun c _ => c == 67) c k q)).pi rfl, fun j hj => ?_⟩
    · simp (disch := omega) only [f_M_allSay_L2, gupE, gltE, gllE, litE, litLE, bindE, ↓reduceIte, gsi_at, gsi_l2, gsl_at, gsl_i1, upd_at, updL_at, Nat.reduceEqDiff, gix_nI, nI_clamp, bI_0, bI_gzb, Bool.true_eq_false, Bool.false_eq_true, hP1.1.2, nI_leI, h1, e1, nI_add]
      rfl
    · rw [gpi_at]
      by_cases q : j = i
      · rw [if_pos ⟨rfl, q⟩, q]
      · rw [if_neg fun z => q z.2, e2.1 67 j rfl]
        exact hs j (by omega)
  · rintro fu a ⟨hF, hs⟩
    obtain ⟨hP1, hV1⟩ := keep a hF
    have h1 : nI n ≤ nI n := Int32.le_refl _
    refine ⟨a, ?_, ⟨⟨hP1.1.2, hP1.2.2.2.1.2⟩, fun j hj => ⟨hs j hj, (hP1.2.1 j hj).2.1⟩⟩, hF⟩
    simp (disch := omega) only [f_M_allSay_L2, gupE, gltE, gllE, litE, litLE, bindE, ↓reduceIte, gsi_at, gsi_l2, gsl_at, gsl_i1, upd_at, updL_at, Nat.reduceEqDiff, gix_nI, nI_clamp, bI_0, bI_gzb, Bool.true_eq_false, Bool.false_eq_true, hP1.1.2, h1]
def cGa (c0 c k : Nat) : Bool := cSp c k || c == c0 || c == c0 + 1 || c == c0 + 2
theorem Cgather {c : Nat} (hc : c = 11 ∨ c = 19) {σ : gS} {n : Nat} {K E P : Nat → Nat} {B : Nat → Int32} {F W D : Nat} {V : Option ((Nat → Int32) → Int32)} (hP : Peo σ n K E P B F W D) (hV : LwV σ V) {w d : Nat} (hw : w < 6) (hd : d < 100) :
    ∃ τ, f_Cr_gather c (nI w) (nI d) σ = some τ ∧ CS c τ n (sy V K E P B w d) K W ∧ Fr (cGa c) σ τ := by
  have hn := hP.1.1
  have keep : ∀ τ, Fr (cGa c) σ τ → Peo τ n K E P B F W D ∧ LwV τ V := fun τ hF => ⟨hP.ag fun a k q => hF.1 a k (by
    unfold cPeo at q
    unfold cGa cSp
    simp only [Bool.or_eq_true, Bool.and_eq_true, beq_iff_eq, Bool.or_eq_false_iff, Bool.and_eq_false_iff, beq_eq_false_iff_ne] at q ⊢
    omega), hV.ag fun a k q => hF.1 a k (by
    unfold cLw at q
    unfold cGa cSp
    simp only [Bool.or_eq_true, Bool.and_eq_true, beq_iff_eq, Bool.or_eq_false_iff, Bool.and_eq_false_iff, beq_eq_false_iff_ne] at q ⊢
    omega)⟩
  have g0 : ∀ k, cGa c c k = true := fun k => by simp [cGa]
  have g1 : ∀ k, cGa c (c + 1) k = true := fun k => by simp [cGa]
  have g2 : ∀ k, cGa c (c + 2) k = true := fun k => by simp [cGa]
  have hC0 : f_Cr_gather c (nI w) (nI d) σ = f_Cr_gather_L24 c gfu (nI w) (nI d) (nI 0) (gpi (gpi σ c 2 (nI n)) c 3 (nI W)) := by
    have c1 : ¬ 1 = c := by omega
    unfold f_Cr_gather
    generalize f_Cr_gather_L24 c gfu = G
    simp (disch := omega) only [gupE, gltE, gllE, litE, litLE, bindE, ↓reduceIte, gsi_at, gsi_l2, gsl_at, gsl_i1, upd_at, updL_at, Nat.reduceEqDiff, gix_nI, nI_clamp, bI_0, bI_gzb, Bool.true_eq_false, Bool.false_eq_true, hP.1.2.1, gmin_nI, c1, hP.2.2.2.1.2.1, Nat.min_eq_left]
  have hF0 : Fr (cGa c) σ (gpi (gpi σ c 2 (nI n)) c 3 (nI W)) := ((Fr.rf _ σ).pi (g0 2)).pi (g0 3)
  rw [hC0]
  refine loopG (fun fu i a => f_Cr_gather_L24 c fu (nI w) (nI d) (nI i) a) (fun o => ∃ τ, o = some τ ∧ CS c τ n (sy V K E P B w d) K W ∧ Fr (cGa c) σ τ) (fun i a => (a.1 c 2 = nI n ∧ a.1 c 3 = nI W) ∧ Fr (cGa c) σ a ∧ ∀ j, j < i → a.1 (c + 1) j = nI (sy V K E P B w d j) ∧ a.1 (c + 2) j = nI (K j)) n 0 _ (by omega) (by omega) ⟨⟨by simp only [gsi_at, upd_at, Nat.reduceEqDiff, ↓reduceIte], by simp only [gsi_at, upd_at, Nat.reduceEqDiff, ↓reduceIte]⟩, hF0, fun j h => absurd h (Nat.not_lt_zero j)⟩ ?_ ?_
  · rintro fu i a hi ⟨hd2, hF, hs⟩
    left
    obtain ⟨hP1, hV1⟩ := keep a hF
    have h1 : ¬ n ≤ i := by omega
    have hk := (hP1.2.1 i hi).2.1
    obtain ⟨s1, hs1⟩ : ∃ s1, s1 = gpi a (c + 2) i (nI (K i)) := ⟨_, rfl⟩
    have hF1 : Fr (cGa c) σ s1 := by
      rw [hs1]
      exact hF.pi (g2 i)
    obtain ⟨hP2, hV2⟩ := keep s1 hF1
    obtain ⟨τ, e1, e2⟩ := Tspeech hP2 hV2 (c := i) (k := K i) (e := E i) hi (hP.2.1 i hi).1.1 (hP.2.1 i hi).1.2.1 hw hd
    have o : ∀ x k, x ≠ 6 → x ≠ 9 → x ≠ 10 → τ.1 x k = s1.1 x k := fun x k x1 x2 x3 => e2.1 x k (by
      unfold cSp
      simp [x1, x2, x3])
    refine ⟨gpi τ (c + 1) i (nI (sy V K E P B w d i)), ?_, ⟨?_, ?_⟩, (hF1.tr (e2.sub fun x k q => ?_)).pi (g1 i), fun j hj => ⟨?_, ?_⟩⟩
    · have c1 : ¬ c = 1 := by omega
      simp (disch := omega) only [f_Cr_gather_L24, gupE, gltE, gllE, litE, litLE, bindE, ↓reduceIte, gsi_at, gsi_l2, gsl_at, gsl_i1, upd_at, updL_at, Nat.reduceEqDiff, gix_nI, nI_clamp, bI_0, bI_gzb, Bool.true_eq_false, Bool.false_eq_true, hd2.1, nI_leI, h1, hk.1, hk.2.1, c1, nI_add]
      rw [← hs1]
      simp only [ite_self, e1, bindE]
      rfl
    · rw [gpi_at, if_neg (by omega), o c 2 (by omega) (by omega) (by omega), hs1, gpi_at, if_neg (by omega)]
      exact hd2.1
    · rw [gpi_at, if_neg (by omega), o c 3 (by omega) (by omega) (by omega), hs1, gpi_at, if_neg (by omega)]
      exact hd2.2
    · simp only [cGa, Bool.or_eq_false_iff] at q
      exact q.1.1.1
    · rw [gpi_at]
      by_cases q : j = i
      · rw [if_pos ⟨rfl, q⟩, q]
      · rw [if_neg fun z => q z.2, o (c + 1) j (by omega) (by omega) (by omega), hs1, gpi_at, if_neg (by omega)]
        exact (hs j (by omega)).1
    · rw [gpi_at, if_neg (by omega), o (c + 2) j (by omega) (by omega) (by omega), hs1, gpi_at]
      by_cases q : j = i
      · rw [if_pos ⟨rfl, q⟩, q]
      · rw [if_neg fun z => q z.2]
        exact (hs j (by omega)).2
  · rintro fu a ⟨hd2, hF, hs⟩
    have h1 : nI n ≤ nI n := Int32.le_refl _
    refine ⟨a, ?_, ⟨hd2, fun j hj => hs j hj⟩, hF⟩
    simp (disch := omega) only [f_Cr_gather_L24, gupE, gltE, gllE, litE, litLE, bindE, ↓reduceIte, gsi_at, gsi_l2, gsl_at, gsl_i1, upd_at, updL_at, Nat.reduceEqDiff, gix_nI, nI_clamp, bI_0, bI_gzb, Bool.true_eq_false, Bool.false_eq_true, hd2.1, h1]
theorem sy_rg {σ : gS} {n : Nat} {K E P : Nat → Nat} {B : Nat → Int32} {F W D : Nat} (hP : PM σ n K E P B F W D) {V : Option ((Nat → Int32) → Int32)} {w d : Nat} (hw : w < 6) : Rg n (sy V K E P B w d) K W :=
  ⟨hP.1.1, hP.2.2.2.1.1, fun j hj => ⟨spk_lt (hP.2.1 j hj).1.2.2.2 hw, (hP.2.1 j hj).1.1⟩⟩
