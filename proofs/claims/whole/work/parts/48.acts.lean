/-! pure: acts of words -/
def nt (b : Nat) (σ : gS) : gS := if σ.1 43 3 < nI 24 then gpi (gpi σ 45 (σ.1 43 3).toNatClampNeg (nI b)) 43 3 (σ.1 43 3 + nI 1) else gpi σ 43 3 (σ.1 43 3 + nI 1)
def nts : List Nat → gS → gS
  | [], σ => σ
  | b :: r, σ => nts r (nt b σ)
theorem nts_app : ∀ (l1 l2 : List Nat) (σ : gS), nts (l1 ++ l2) σ = nts l2 (nts l1 σ)
  | [], _, _ => rfl
  | b :: r, l2, σ => nts_app r l2 (nt b σ)
def mt (b : Nat) (σ : gS) : gS := if σ.1 59 33 < nI 24 then gpi (gpi σ 75 (σ.1 59 33).toNatClampNeg (nI b)) 59 33 (σ.1 59 33 + nI 1) else gpi σ 59 33 (σ.1 59 33 + nI 1)
def mts : List Nat → gS → gS
  | [], σ => σ
  | b :: r, σ => mts r (mt b σ)
theorem mts_app : ∀ (l1 l2 : List Nat) (σ : gS), mts (l1 ++ l2) σ = mts l2 (mts l1 σ)
  | [], _, _ => rfl
  | b :: r, l2, σ => mts_app r l2 (mt b σ)
/-- the class before an act goes on: number, its kind, how many ran -/
def Wst (σ : gS) (b k i : Nat) : Prop := (b < 50 ∧ k < 8 ∧ i < 1000) ∧ σ.1 43 4 = nI b ∧ σ.1 44 b = nI k ∧ σ.1 43 3 = nI i
def Mst (σ : gS) (b k i : Nat) : Prop := (b < 50 ∧ k < 8 ∧ i < 1000) ∧ σ.1 59 35 = nI b ∧ σ.1 59 34 = nI k ∧ σ.1 59 33 = nI i
theorem nt_i {σ : gS} {b k i : Nat} (h : Wst σ b k i) (c : Nat) : nt c σ = if i < 24 then gpi (gpi σ 45 i (nI c)) 43 3 (nI (i + 1)) else gpi σ 43 3 (nI (i + 1)) := by
  obtain ⟨⟨h1, h2, h3⟩, -, -, e⟩ := h
  unfold nt
  simp (disch := omega) only [e, nI_clamp, nI_add, nI_ltI]
theorem Wst.nt {σ : gS} {b k i : Nat} (h : Wst σ b k i) (c : Nat) (hi : i < 999) : Wst (nt c σ) b k (i + 1) := by
  rw [nt_i h]
  obtain ⟨⟨h1, h2, h3⟩, e1, e2, e3⟩ := h
  refine ⟨⟨h1, h2, by omega⟩, ?_, ?_, ?_⟩
  · split
    · rw [gpi_at, if_neg (by omega), gpi_at, if_neg (by omega), e1]
    · rw [gpi_at, if_neg (by omega), e1]
  · split
    · rw [gpi_at, if_neg (by omega), gpi_at, if_neg (by omega), e2]
    · rw [gpi_at, if_neg (by omega), e2]
  · split
    · rw [gpi_at, if_pos ⟨rfl, rfl⟩]
    · rw [gpi_at, if_pos ⟨rfl, rfl⟩]
theorem Wst.nts : ∀ (l : List Nat) {σ : gS} {b k i : Nat}, Wst σ b k i → i + l.length < 1000 → Wst (nts l σ) b k (i + l.length)
  | [], _, _, _, _, h, _ => h
  | c :: r, _, _, _, i, h, hl => by
    have e : i + (c :: r).length = i + 1 + r.length := by
      show i + (r.length + 1) = _
      omega
    rw [e] at hl ⊢
    exact Wst.nts r (h.nt c (by omega)) hl
theorem note_eq {σ : gS} {b k i : Nat} (h : Wst σ b k i) (c : Nat) : f_Wo_note (nI c) σ = some (nt c σ) := by
  rw [nt_i h]
  obtain ⟨⟨h1, h2, h3⟩, e1, e2, e3⟩ := h
  unfold f_Wo_note f_Wo_note_j19
  by_cases q : i < 24
  · have q2 : ¬ 24 ≤ i := by omega
    simp (disch := omega) only [gupE, gltE, gllE, litE, litLE, bindE, ↓reduceIte, gsi_at, gsi_l2, gsl_at, gsl_i1, upd_at, updL_at, Nat.reduceEqDiff, gix_nI, nI_clamp, bI_0, bI_gzb, Bool.true_eq_false, Bool.false_eq_true, e3, nI_leI, q, q2, nI_add]
  · have q2 : 24 ≤ i := by omega
    simp (disch := omega) only [gupE, gltE, gllE, litE, litLE, bindE, ↓reduceIte, gsi_at, gsi_l2, gsl_at, gsl_i1, upd_at, updL_at, Nat.reduceEqDiff, gix_nI, nI_clamp, bI_0, bI_gzb, Bool.true_eq_false, Bool.false_eq_true, e3, nI_leI, q, q2, nI_add]
theorem mt_i {σ : gS} {b k i : Nat} (h : Mst σ b k i) (c : Nat) : mt c σ = if i < 24 then gpi (gpi σ 75 i (nI c)) 59 33 (nI (i + 1)) else gpi σ 59 33 (nI (i + 1)) := by
  obtain ⟨⟨h1, h2, h3⟩, -, -, e⟩ := h
  unfold mt
  simp (disch := omega) only [e, nI_clamp, nI_add, nI_ltI]
theorem Mst.mt {σ : gS} {b k i : Nat} (h : Mst σ b k i) (c : Nat) (hi : i < 999) : Mst (mt c σ) b k (i + 1) := by
  rw [mt_i h]
  obtain ⟨⟨h1, h2, h3⟩, e1, e2, e3⟩ := h
  refine ⟨⟨h1, h2, by omega⟩, ?_, ?_, ?_⟩
  · split
    · rw [gpi_at, if_neg (by omega), gpi_at, if_neg (by omega), e1]
    · rw [gpi_at, if_neg (by omega), e1]
  · split
    · rw [gpi_at, if_neg (by omega), gpi_at, if_neg (by omega), e2]
    · rw [gpi_at, if_neg (by omega), e2]
  · split
    · rw [gpi_at, if_pos ⟨rfl, rfl⟩]
    · rw [gpi_at, if_pos ⟨rfl, rfl⟩]
theorem Mst.mts : ∀ (l : List Nat) {σ : gS} {b k i : Nat}, Mst σ b k i → i + l.length < 1000 → Mst (mts l σ) b k (i + l.length)
  | [], _, _, _, _, h, _ => h
  | c :: r, _, _, _, i, h, hl => by
    have e : i + (c :: r).length = i + 1 + r.length := by
      show i + (r.length + 1) = _
      omega
    rw [e] at hl ⊢
    exact Mst.mts r (h.mt c (by omega)) hl
theorem runs_eq {σ : gS} {b k i : Nat} (h : Mst σ b k i) (c : Nat) : f_M_runs (nI c) σ = some (mt c σ) := by
  rw [mt_i h]
  obtain ⟨⟨h1, h2, h3⟩, e1, e2, e3⟩ := h
  unfold f_M_runs f_M_runs_j19
  by_cases q : i < 24
  · have q2 : ¬ 24 ≤ i := by omega
    simp (disch := omega) only [gupE, gltE, gllE, litE, litLE, bindE, ↓reduceIte, gsi_at, gsi_l2, gsl_at, gsl_i1, upd_at, updL_at, Nat.reduceEqDiff, gix_nI, nI_clamp, bI_0, bI_gzb, Bool.true_eq_false, Bool.false_eq_true, e3, nI_leI, q, q2, nI_add]
  · have q2 : 24 ≤ i := by omega
    simp (disch := omega) only [gupE, gltE, gllE, litE, litLE, bindE, ↓reduceIte, gsi_at, gsi_l2, gsl_at, gsl_i1, upd_at, updL_at, Nat.reduceEqDiff, gix_nI, nI_clamp, bI_0, bI_gzb, Bool.true_eq_false, Bool.false_eq_true, e3, nI_leI, q, q2, nI_add]
def gz0 : gS := (fun _ _ => 0, fun _ _ => 0)
theorem owner_any (σ : gS) : ∀ fu a b c, f_Wo_owner_L4 σ fu a b c = f_Wo_owner_L4 gz0 fu a b c
  | 0, _, _, _ => rfl
  | fu + 1, a, b, c => by
    simp only [f_Wo_owner_L4, owner_any σ fu]
def ow (k a : Nat) : Nat := [0, 0, 0, 0, 1, 0, 0, 0, 0, 2, 0, 0, 0, 3, 3, 0, 1, 0, 4, 0, 0, 3, 3, 5, 6, 0, 0, 0, 1, 7, 4, 7].getD (4 * k + a) 0
theorem owner_tb : ∀ k, k < 8 → ∀ a, a < 4 → f_Wo_owner_L4 gz0 gfu (nI a) (nI k) (nI 0) = some (nI (ow k a)) := by decide +kernel
theorem owner_eq {k a : Nat} (hk : k < 8) (ha : a < 4) (σ : gS) : f_Wo_owner (nI k) (nI a) σ = some (nI (ow k a)) := by
  unfold f_Wo_owner
  simp only [litE]
  rw [owner_any, owner_tb k hk a ha]
/-- one turn of run() -/
theorem run_at {n : Nat} {σ : gS} {b k i fr a d : Nat} (h : Wst σ b k i) (hf : fr < 8) (ha : a < 4) (hd : d ≤ 30) (x : Int32) {o : Nat} (hw : ow fr a = o) (ho : o < 8) {x6 x8 : Int32} (hO : tb_OWN.getD (o * 4 + a) 0 = x6) (hA : tb_ABOVE.getD o 0 = x8) :
    f_Wo_run (n + 1) (nI fr) (nI a) x (nI d) σ = ((f_Wo_note x6 σ).bind fun s12 => if x6 = nI 1 then some ((x + (s12.1 43 4)), s12) else if x6 = nI 2 then (f_Wo_run n (nI k) (nI 1) x (nI (d + 1)) s12).bind fun q15 => (f_Wo_run n (nI k) (nI 2) (nI 1) (nI (d + 1)) q15.2).bind fun q16 => some ((q15.1 - q16.1), q16.2) else if x6 = nI 10 then (f_Wo_run n (nI k) (nI 0) x (nI (d + 1)) s12).bind fun q18 => some ((q18.1 * nI 2), q18.2) else if x6 = nI 11 then some ((x ^^^ (s12.1 43 4)), s12) else if x6 = nI 20 then (f_Wo_run n x8 (nI 0) x (nI (d + 1)) s12).bind fun q21 => some ((q21.1 + nI 3), q21.2) else if x6 = nI 30 then (f_Wo_run n x8 (nI 1) x (nI (d + 1)) s12).bind fun q23 => some ((-q23.1), q23.2) else if x6 = nI 40 then (f_Wo_run n x8 (nI 2) x (nI (d + 1)) s12).bind fun q25 => some ((q25.1 * nI 3), q25.2) else if x6 = nI 41 then (f_Wo_run n x8 (nI 1) (x + nI 1) (nI (d + 1)) s12).bind fun q27 => some (q27.1, q27.2) else if x6 = nI 50 then (f_Wo_run n x8 (nI 2) x (nI (d + 1)) s12).bind fun q29 => (f_Wo_run n (nI k) (nI 0) (nI 2) (nI (d + 1)) q29.2).bind fun q30 => some ((q29.1 - q30.1), q30.2) else if x6 = nI 60 then (f_Wo_run n x8 (nI 3) x (nI (d + 1)) s12).bind fun q32 => some ((q32.1 ^^^ nI 5), q32.2) else if x6 = nI 70 then (f_Wo_run n x8 (nI 0) x (nI (d + 1)) s12).bind fun q34 => some ((q34.1 * nI 2), q34.2) else if x6 = nI 80 then (f_Wo_run n x8 (nI 1) x (nI (d + 1)) s12).bind fun q36 => (f_Wo_run n (nI k) (nI 2) (nI 2) (nI (d + 1)) q36.2).bind fun q37 => some ((q36.1 + q37.1), q37.2) else if x6 = nI 81 then (f_Wo_run n x8 (nI 3) x (nI (d + 1)) s12).bind fun q39 => some ((q39.1 - nI 1), q39.2) else some (nI 0, s12)) := by
  obtain ⟨⟨h1, h2, h3⟩, e1, e2, e3⟩ := h
  have w8 : inb (nI o) 8 = true := by
    rw [inb_nI (by omega)]
    exact decide_eq_true ho
  have hwi : f_T_within (nI o) 8 = some (bI true) := by
    rw [← w8]
    exact within_eq (nI o) (by decide)
  show fo_Wo_run (fun v1 v2 v3 v4 σ => f_Wo_run n v1 v2 v3 v4 σ) (nI fr) (nI a) x (nI d) σ = _
  unfold fo_Wo_run
  rw [owner_eq hf ha, hw, bindE, hwi, bindE]
  have h30 : nI d ≤ 30 := (nI_leI (a := d) (b := 30) (by omega) (by omega)).mpr hd
  have hix : gix (nI o * 4 + nI a) 32 = true := by
    rw [show (4 : Int32) = nI 4 from rfl, pk_mul, nI_add]
    exact gix_nI (by omega) (by omega)
  have hcl : (nI o * 4 + nI a).toNatClampNeg = o * 4 + a := by
    rw [show (4 : Int32) = nI 4 from rfl, pk_mul, nI_add]
    exact nI_clamp (by omega)
  have hb0 : ¬ bI true = 0 := by decide
  rw [if_neg hb0, if_pos h30, if_pos hix, hcl, hO, gltE, if_pos (gix_nI ho (by decide)), nI_clamp (show o < 2 ^ 31 by omega), hA, gltE, e1, if_pos (gix_nI h1 (by decide)), nI_clamp (show b < 2 ^ 31 by omega), e2, gltE, gltE, show nI d + 1 = nI (d + 1) from nI_add d 1]
  simp only [litE]
theorem run_1 {n : Nat} {σ : gS} {b k i fr d : Nat} (h : Wst σ b k i) (hf : fr < 8) (hd : d ≤ 30) (x : Int32) (hw : ow fr 0 = 0) : f_Wo_run (n + 1) (nI fr) (nI 0) x (nI d) σ = some (x + nI b, nt 1 σ) := by
  rw [run_at h hf (by omega) hd x hw (by omega) (x6 := nI 1) rfl rfl]
  have e : (nt 1 σ).1 43 4 = nI b := by
    have hi := h.1.2.2
    rw [nt_i h]
    split
    · rw [gpi_at, if_neg (by omega), gpi_at, if_neg (by omega), h.2.1]
    · rw [gpi_at, if_neg (by omega), h.2.1]
  simp only [note_eq h, bindE, ↓reduceIte, e]
theorem run_11 {n : Nat} {σ : gS} {b k i fr d : Nat} (h : Wst σ b k i) (hf : fr < 8) (hd : d ≤ 30) (x : Int32) (hw : ow fr 2 = 0) : f_Wo_run (n + 1) (nI fr) (nI 2) x (nI d) σ = some (x ^^^ nI b, nt 11 σ) := by
  rw [run_at h hf (by omega) hd x hw (by omega) (x6 := nI 11) rfl rfl]
  have e : (nt 11 σ).1 43 4 = nI b := by
    have hi := h.1.2.2
    rw [nt_i h]
    split
    · rw [gpi_at, if_neg (by omega), gpi_at, if_neg (by omega), h.2.1]
    · rw [gpi_at, if_neg (by omega), h.2.1]
  simp (disch := omega) only [note_eq h, bindE, ↓reduceIte, nI_eq, Nat.reduceEqDiff, e]
def fv (b fr : Nat) (x : Int32) : Int32 := if fr = 1 ∨ fr = 4 ∨ fr = 7 then x + nI b + nI 3 else if fr = 6 then (x + nI b) * nI 2 else x + nI b
def fl (fr : Nat) : List Nat := if fr = 1 ∨ fr = 4 ∨ fr = 7 then [20, 1] else if fr = 6 then [70, 1] else [1]
def dv (b k fr : Nat) (x : Int32) : Int32 := if fr = 3 ∨ fr = 5 then (x ^^^ nI b) * nI 3 else if fr = 4 ∨ fr = 7 then (x ^^^ nI b) - fv b k (nI 2) else x ^^^ nI b
def dl (k fr : Nat) : List Nat := if fr = 3 ∨ fr = 5 then [40, 11] else if fr = 4 ∨ fr = 7 then [50, 11] ++ fl k else [11]
def sv (b k fr : Nat) (x : Int32) : Int32 := if fr = 3 ∨ fr = 5 then -(fv b k (x + nI 1) * nI 2) else if fr = 2 then -(fv b k x * nI 2) else if fr = 7 then fv b k x * nI 2 + dv b k k (nI 2) else fv b k x * nI 2
def sl (k fr : Nat) : List Nat := if fr = 3 ∨ fr = 5 then [41, 30, 10] ++ fl k else if fr = 2 then [30, 10] ++ fl k else if fr = 7 then [80, 10] ++ fl k ++ dl k k else [10] ++ fl k
def tv (b k fr : Nat) (x : Int32) : Int32 := if fr = 5 then (sv b k k x - dv b k k (nI 1)) ^^^ nI 5 else if fr = 7 then sv b k k x - dv b k k (nI 1) - nI 1 else sv b k k x - dv b k k (nI 1)
def tl (k fr : Nat) : List Nat := if fr = 5 then [60, 2] ++ sl k k ++ dl k k else if fr = 7 then [81, 2] ++ sl k k ++ dl k k else [2] ++ sl k k ++ dl k k
theorem fl_le (fr : Nat) : (fl fr).length ≤ 2 := by
  unfold fl
  split
  · exact Nat.le_refl _
  · split
    · exact Nat.le_refl _
    · decide
theorem dl_le (k fr : Nat) : (dl k fr).length ≤ 4 := by
  unfold dl
  have := fl_le k
  split
  · decide
  · split
    · rw [List.length_append]
      show 2 + _ ≤ 4
      omega
    · decide
theorem sl_le (k fr : Nat) : (sl k fr).length ≤ 8 := by
  unfold sl
  have := fl_le k
  have := dl_le k k
  split
  · rw [List.length_append]
    show 3 + _ ≤ 8
    omega
  · split
    · rw [List.length_append]
      show 2 + _ ≤ 8
      omega
    · split
      · rw [List.length_append, List.length_append]
        show 2 + _ + _ ≤ 8
        omega
      · rw [List.length_append]
        show 1 + _ ≤ 8
        omega
theorem run_f {n : Nat} {σ : gS} {b k i fr d : Nat} (h : Wst σ b k i) (hi : i < 900) (hf : fr < 8) (hd : d < 30) (x : Int32) : f_Wo_run (n + 1 + 1) (nI fr) (nI 0) x (nI d) σ = some (fv b fr x, nts (fl fr) σ) := by
  have h20 : ∀ fr, fr < 8 → ow fr 0 = 1 → f_Wo_run (n + 1 + 1) (nI fr) (nI 0) x (nI d) σ = some (x + nI b + nI 3, nts [20, 1] σ) := by
    intro fr hf hw
    rw [run_at h hf (by omega) (by omega) x hw (by omega) (x6 := nI 20) (x8 := nI 0) rfl rfl]
    simp (disch := omega) only [note_eq h, bindE, ↓reduceIte, nI_eq, Nat.reduceEqDiff]
    rw [run_1 (h.nt 20 (by omega)) (by omega) (by omega) x rfl]
    rfl
  have h70 : f_Wo_run (n + 1 + 1) (nI 6) (nI 0) x (nI d) σ = some ((x + nI b) * nI 2, nts [70, 1] σ) := by
    rw [run_at h (by omega) (by omega) (by omega) x (show ow 6 0 = 6 from rfl) (by omega) (x6 := nI 70) (x8 := nI 0) rfl rfl]
    simp (disch := omega) only [note_eq h, bindE, ↓reduceIte, nI_eq, Nat.reduceEqDiff]
    rw [run_1 (h.nt 70 (by omega)) (by omega) (by omega) x rfl]
    rfl
  have : fr = 0 ∨ fr = 1 ∨ fr = 2 ∨ fr = 3 ∨ fr = 4 ∨ fr = 5 ∨ fr = 6 ∨ fr = 7 := by omega
  rcases this with rfl | rfl | rfl | rfl | rfl | rfl | rfl | rfl
  · exact run_1 h (by omega) (by omega) x rfl
  · exact h20 1 (by omega) rfl
  · exact run_1 h (by omega) (by omega) x rfl
  · exact run_1 h (by omega) (by omega) x rfl
  · exact h20 4 (by omega) rfl
  · exact run_1 h (by omega) (by omega) x rfl
  · exact h70
  · exact h20 7 (by omega) rfl
theorem run_d {n : Nat} {σ : gS} {b k i fr d : Nat} (h : Wst σ b k i) (hi : i < 800) (hf : fr < 8) (hd : d < 29) (x : Int32) : f_Wo_run (n + 1 + 1 + 1) (nI fr) (nI 2) x (nI d) σ = some (dv b k fr x, nts (dl k fr) σ) := by
  have hk := h.1.2.1
  have h40 : ∀ fr, fr < 8 → ow fr 2 = 3 → f_Wo_run (n + 1 + 1 + 1) (nI fr) (nI 2) x (nI d) σ = some ((x ^^^ nI b) * nI 3, nts [40, 11] σ) := by
    intro fr hf hw
    rw [run_at h hf (by omega) (by omega) x hw (by omega) (x6 := nI 40) (x8 := nI 2) rfl rfl]
    simp (disch := omega) only [note_eq h, bindE, ↓reduceIte, nI_eq, Nat.reduceEqDiff]
    rw [run_11 (h.nt 40 (by omega)) (by omega) (by omega) x rfl]
    rfl
  have h50 : ∀ fr, fr < 8 → ow fr 2 = 4 → f_Wo_run (n + 1 + 1 + 1) (nI fr) (nI 2) x (nI d) σ = some ((x ^^^ nI b) - fv b k (nI 2), nts ([50, 11] ++ fl k) σ) := by
    intro fr hf hw
    rw [run_at h hf (by omega) (by omega) x hw (by omega) (x6 := nI 50) (x8 := nI 1) rfl rfl]
    simp (disch := omega) only [note_eq h, bindE, ↓reduceIte, nI_eq, Nat.reduceEqDiff]
    rw [run_11 (h.nt 50 (by omega)) (by omega) (by omega) x rfl]
    simp only [bindE]
    rw [run_f ((h.nt 50 (by omega)).nt 11 (by omega)) (by omega) hk (by omega), nts_app]
    rfl
  have : fr = 0 ∨ fr = 1 ∨ fr = 2 ∨ fr = 3 ∨ fr = 4 ∨ fr = 5 ∨ fr = 6 ∨ fr = 7 := by omega
  rcases this with rfl | rfl | rfl | rfl | rfl | rfl | rfl | rfl
  · exact run_11 h (by omega) (by omega) x rfl
  · exact run_11 h (by omega) (by omega) x rfl
  · exact run_11 h (by omega) (by omega) x rfl
  · exact h40 3 (by omega) rfl
  · exact h50 4 (by omega) rfl
  · exact h40 5 (by omega) rfl
  · exact run_11 h (by omega) (by omega) x rfl
  · exact h50 7 (by omega) rfl
