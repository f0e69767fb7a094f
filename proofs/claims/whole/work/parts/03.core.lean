/-! THE UNIFORM WORLD: cells with a fixed shape, a pure state of ints and longs, and the judgements G and Ct over it. -/
def gtb : List Cond := lw_tbl.filter goodWord
theorem gt_in {w : Cond} (i : Nat) (h : lw_tbl[i]? = some w) (hg : goodWord w = true) : w ∈ gtb := List.mem_filter.mpr ⟨List.mem_of_getElem? h, hg⟩
theorem gt_good {z : MethodName} {b : ByteArray} {n : Nat} {r : Option FieldType} (h : Cond.code z b n r ∈ gtb) : GoodIn gtb (Cond.code z b n r :: gtb) := by
  intro w hw
  have hm : w ∈ gtb := by
    rcases List.mem_cons.mp hw with rfl | hw
    · exact h
    · exact hw
  exact ⟨hm, good_of_word (List.mem_filter.mp hm).2⟩
abbrev gS : Type := (Nat → Nat → Int32) × (Nat → Nat → Int64)
/-- an object (its class, its fields: none an int, some j the cell j); an int array; a long array; an array of cells -/
abbrev gSh : Type := (Nat × List (Option Nat)) ⊕ (Nat ⊕ (Nat ⊕ List Nat))
def gtr (ad : Nat → Nat) (v : Value) : Value := match v with
  | .ref a => .ref (ad a)
  | w => w
theorem gtr_cat (ad : Nat → Nat) (v : Value) : (gtr ad v).category = v.category := by cases v <;> rfl
def gF (ad : Nat → Nat) (f : Nat → Int32) : Nat → List (Option Nat) → List Value
  | _, [] => []
  | k, none :: r => .int (f k) :: gF ad f (k + 1) r
  | k, some j :: r => .ref (ad j) :: gF ad f (k + 1) r
theorem gF_len (ad : Nat → Nat) (f : Nat → Int32) : ∀ (fs : List (Option Nat)) (k : Nat), (gF ad f k fs).length = fs.length
  | [], _ => rfl
  | none :: r, k => by simp only [gF, List.length_cons, gF_len ad f r (k + 1)]
  | some j :: r, k => by simp only [gF, List.length_cons, gF_len ad f r (k + 1)]
theorem gF_int (ad : Nat → Nat) (f : Nat → Int32) : ∀ (fs : List (Option Nat)) (k i : Nat), fs[i]? = some none → (gF ad f k fs)[i]? = some (.int (f (k + i)))
  | [], _, i, h => by simp at h
  | none :: r, k, 0, _ => rfl
  | some j :: r, k, 0, h => by simp at h
  | none :: r, k, i + 1, h => by
    have := gF_int ad f r (k + 1) i h
    rw [show k + (i + 1) = k + 1 + i by omega]
    exact this
  | some j :: r, k, i + 1, h => by
    have := gF_int ad f r (k + 1) i h
    rw [show k + (i + 1) = k + 1 + i by omega]
    exact this
theorem gF_ref (ad : Nat → Nat) (f : Nat → Int32) : ∀ (fs : List (Option Nat)) (k i j : Nat), fs[i]? = some (some j) → (gF ad f k fs)[i]? = some (.ref (ad j))
  | [], _, i, j, h => by simp at h
  | none :: r, k, 0, j, h => by simp at h
  | some j' :: r, k, 0, j, h => by
    have : j' = j := by simpa using h
    subst this
    rfl
  | none :: r, k, i + 1, j, h => gF_ref ad f r (k + 1) i j h
  | some j' :: r, k, i + 1, j, h => gF_ref ad f r (k + 1) i j h
theorem gF_cong (ad : Nat → Nat) {f g : Nat → Int32} : ∀ (fs : List (Option Nat)) (k : Nat), (∀ j, k ≤ j → f j = g j) → gF ad f k fs = gF ad g k fs
  | [], _, _ => rfl
  | none :: r, k, h => by simp only [gF, h k (Nat.le_refl k), gF_cong ad r (k + 1) (fun j hj => h j (by omega))]
  | some j :: r, k, h => by simp only [gF, gF_cong ad r (k + 1) (fun j hj => h j (by omega))]
theorem gF_set (ad : Nat → Nat) (f : Nat → Int32) (x : Int32) : ∀ (fs : List (Option Nat)) (k i : Nat), fs[i]? = some none → (gF ad f k fs).set i (.int x) = gF ad (upd f (k + i) x) k fs
  | [], _, i, h => by simp at h
  | none :: r, k, 0, _ => by
    simp only [gF, List.set_cons_zero, Nat.add_zero]
    rw [show upd f k x k = x from pk_us]
    congr 1
    exact gF_cong ad r (k + 1) (fun j hj => (pk_un (by omega)).symm)
  | some j :: r, k, 0, h => by simp at h
  | none :: r, k, i + 1, h => by
    have := gF_set ad f x r (k + 1) i h
    simp only [gF, List.set_cons_succ, this, show k + (i + 1) = k + 1 + i by omega]
    rw [show upd f (k + 1 + i) x k = f k from pk_un (by omega)]
  | some j :: r, k, i + 1, h => by
    have := gF_set ad f x r (k + 1) i h
    simp only [gF, List.set_cons_succ, this, show k + (i + 1) = k + 1 + i by omega]
def gE (ad : Nat → Nat) (cA : Nat → ClassId) (σ : gS) (c : Nat) (s : gSh) : va_E := match s with
  | .inl o => .inr (o.1, gF ad (σ.1 c) 0 o.2)
  | .inr (.inl n) => .inl (cA c, (n, .inl (σ.1 c)))
  | .inr (.inr (.inl n)) => .inl (cA c, (n, .inr (.inl (σ.2 c))))
  | .inr (.inr (.inr js)) => .inl (cA c, (js.length, .inr (.inr (.inr (.inr (fun i => (js[i]?).map ad))))))
theorem gE_cong {ad : Nat → Nat} {cA : Nat → ClassId} {σ τ : gS} {c : Nat} (s : gSh) (h1 : σ.1 c = τ.1 c) (h2 : σ.2 c = τ.2 c) : gE ad cA σ c s = gE ad cA τ c s := by
  rcases s with o | n | n | js <;> simp only [gE, h1, h2]
def gL (ad : Nat → Nat) (cA : Nat → ClassId) (σ : gS) : Nat → List gSh → va_W
  | _, [] => []
  | c, s :: r => (ad c, gE ad cA σ c s) :: gL ad cA σ (c + 1) r
theorem gL_get (ad : Nat → Nat) (cA : Nat → ClassId) (σ : gS) : ∀ (l : List gSh) (c i : Nat) (s : gSh), l[i]? = some s → (gL ad cA σ c l)[i]? = some (ad (c + i), gE ad cA σ (c + i) s)
  | [], _, i, s, h => by simp at h
  | a :: r, c, 0, s, h => by
    have : a = s := by simpa using h
    subst this
    rfl
  | a :: r, c, i + 1, s, h => by
    have := gL_get ad cA σ r (c + 1) i s h
    rw [show c + (i + 1) = c + 1 + i by omega]
    exact this
theorem gL_cong {ad : Nat → Nat} {cA : Nat → ClassId} {σ τ : gS} : ∀ (l : List gSh) (c : Nat), (∀ j, c ≤ j → σ.1 j = τ.1 j ∧ σ.2 j = τ.2 j) → gL ad cA σ c l = gL ad cA τ c l
  | [], _, _ => rfl
  | a :: r, c, h => by simp only [gL, gE_cong a (h c (Nat.le_refl c)).1 (h c (Nat.le_refl c)).2, gL_cong r (c + 1) (fun j hj => h j (by omega))]
theorem gL_set {ad : Nat → Nat} {cA : Nat → ClassId} {σ τ : gS} : ∀ (l : List gSh) (c i : Nat) (s : gSh), l[i]? = some s → (∀ j, j ≠ c + i → σ.1 j = τ.1 j ∧ σ.2 j = τ.2 j) → (gL ad cA σ c l).set i (ad (c + i), gE ad cA τ (c + i) s) = gL ad cA τ c l
  | [], _, i, s, h, _ => by simp at h
  | a :: r, c, 0, s, h, hj => by
    have : a = s := by simpa using h
    subst this
    simp only [gL, List.set_cons_zero, Nat.add_zero]
    congr 1
    exact gL_cong r (c + 1) (fun j h => hj j (by omega))
  | a :: r, c, i + 1, s, h, hj => by
    have := gL_set (ad := ad) (cA := cA) r (c + 1) i s h (fun j h => hj j (by omega))
    simp only [gL, List.set_cons_succ]
    rw [show c + (i + 1) = c + 1 + i by omega, this, gE_cong a (hj c (by omega)).1 (hj c (by omega)).2]
def gTy (cA : Nat → ClassId) (c : Nat) (s : gSh) : List (ClassId × FieldType) := match s with
  | .inl _ => []
  | .inr (.inl _) => [(cA c, .int)]
  | .inr (.inr (.inl _)) => [(cA c, .long)]
  | .inr (.inr (.inr _)) => [(cA c, .object RX8)]
def gYL (cA : Nat → ClassId) : Nat → List gSh → List (ClassId × FieldType)
  | _, [] => []
  | c, s :: r => gTy cA c s ++ gYL cA (c + 1) r
theorem gYL_mem (cA : Nat → ClassId) : ∀ (l : List gSh) (c i : Nat) (s : gSh) (q : ClassId × FieldType), l[i]? = some s → q ∈ gTy cA (c + i) s → q ∈ gYL cA c l
  | [], _, i, s, q, h, _ => by simp at h
  | a :: r, c, 0, s, q, h, hq => by
    have : a = s := by simpa using h
    subst this
    exact List.mem_append_left _ hq
  | a :: r, c, i + 1, s, q, h, hq => List.mem_append_right _ (gYL_mem cA r (c + 1) i s q h (by rw [show c + 1 + i = c + (i + 1) by omega]; exact hq))
def gsh : List gSh := [
  .inl (10, [some 1, some 11, some 18, some 27, some 31, some 36, some 38, some 43, some 46]),
  .inl (3, [some 2, some 3, some 4, some 5, some 6, some 10, none, none, none, none]),
  .inr (.inl 10),
  .inr (.inl 10),
  .inr (.inl 10),
  .inr (.inl 10),
  .inl (4, [some 7, some 8, some 9, none, none, none]),
  .inr (.inl 128),
  .inr (.inl 128),
  .inr (.inl 128),
  .inr (.inl 6),
  .inl (2, [some 12, some 13, none, none, some 14, some 15, some 16, some 17]),
  .inr (.inl 10),
  .inr (.inl 10),
  .inr (.inl 6),
  .inr (.inl 10),
  .inr (.inl 8),
  .inr (.inl 240),
  .inl (0, [some 19, some 26, none, none, none, none, none, none, none]),
  .inl (2, [some 20, some 21, none, none, some 22, some 23, some 24, some 25]),
  .inr (.inl 10),
  .inr (.inl 10),
  .inr (.inl 6),
  .inr (.inl 10),
  .inr (.inl 8),
  .inr (.inl 240),
  .inr (.inl 10),
  .inl (6, [some 28, some 29, some 30, none, none, none, none, none]),
  .inr (.inl 120),
  .inr (.inl 128),
  .inr (.inl 128),
  .inl (1, [some 32, some 33, some 34, some 35, none, none]),
  .inr (.inl 40),
  .inr (.inl 40),
  .inr (.inl 40),
  .inr (.inl 40),
  .inl (5, [some 37, none, none]),
  .inr (.inl 5),
  .inl (7, [some 39, some 40, some 41, none, none, none]),
  .inr (.inl 10),
  .inr (.inl 10),
  .inl (5, [some 42, none, none]),
  .inr (.inl 5),
  .inl (9, [some 44, some 45, none, none, none]),
  .inr (.inl 50),
  .inr (.inl 24),
  .inr (.inr (.inr [47, 49, 51, 53, 55, 57])),
  .inl (8, [some 48, none, none, none, none]),
  .inr (.inr (.inl 60)),
  .inl (8, [some 50, none, none, none, none]),
  .inr (.inr (.inl 60)),
  .inl (8, [some 52, none, none, none, none]),
  .inr (.inr (.inl 60)),
  .inl (8, [some 54, none, none, none, none]),
  .inr (.inr (.inl 60)),
  .inl (8, [some 56, none, none, none, none]),
  .inr (.inr (.inl 60)),
  .inl (8, [some 58, none, none, none, none]),
  .inr (.inr (.inl 60)),
  .inl (11, [some 60, some 61, some 62, some 63, none, none, none, some 64, none, some 65, none, none, none, none, none, none, some 66, some 67, some 68, some 69, some 70, none, none, some 71, none, none, none, none, some 72, some 73, none, some 74, some 75, none, none, none, some 76, some 77, some 78, some 79]),
  .inr (.inl 43),
  .inr (.inl 40),
  .inr (.inl 40),
  .inr (.inl 40),
  .inr (.inl 120),
  .inr (.inl 120),
  .inr (.inl 6),
  .inr (.inl 10),
  .inr (.inl 1024),
  .inr (.inl 8),
  .inr (.inl 6),
  .inr (.inl 5),
  .inr (.inl 43),
  .inr (.inl 5),
  .inr (.inl 50),
  .inr (.inl 24),
  .inr (.inl 6),
  .inr (.inl 6),
  .inr (.inr (.inl 360)),
  .inr (.inr (.inl 60))]
def gcl : List vw_C := [(RX0, TX0, 9), (RX1, TX1, 6), (RX2, TX2, 8), (RX3, TX3, 10), (RX4, TX4, 6), (RX5, TX5, 3), (RX6, TX6, 8), (RX7, TX7, 6), (RX8, TX8, 5), (RX9, TX9, 5), (RX10, TX10, 9), (RX11, TX11, 40)]
def gnest : List Cond := [
  (Cond.methodLinkNest "TwoAgree" (9 : Nat) ({ cls := "TwoAgree$Island", name := "<init>", desc := "()V" } : MethodName) "TwoAgree"),
  (Cond.methodLinkNest "TwoAgree$Island" (26 : Nat) ({ cls := "TwoAgree$Law", name := "<init>", desc := "()V" } : MethodName) "TwoAgree"),
  (Cond.methodLinkNest "TwoAgree" (18 : Nat) ({ cls := "TwoAgree$Crowd", name := "<init>", desc := "()V" } : MethodName) "TwoAgree"),
  (Cond.methodLinkNest "TwoAgree" (25 : Nat) ({ cls := "TwoAgree$Bribes", name := "<init>", desc := "()V" } : MethodName) "TwoAgree"),
  (Cond.methodLinkNest "TwoAgree$Bribes" (11 : Nat) ({ cls := "TwoAgree$Crowd", name := "<init>", desc := "()V" } : MethodName) "TwoAgree"),
  (Cond.methodLinkNest "TwoAgree" (32 : Nat) ({ cls := "TwoAgree$Parser", name := "<init>", desc := "()V" } : MethodName) "TwoAgree"),
  (Cond.methodLinkNest "TwoAgree" (39 : Nat) ({ cls := "TwoAgree$Changes", name := "<init>", desc := "()V" } : MethodName) "TwoAgree"),
  (Cond.methodLinkNest "TwoAgree" (46 : Nat) ({ cls := "TwoAgree$Ledger", name := "<init>", desc := "()V" } : MethodName) "TwoAgree"),
  (Cond.methodLinkNest "TwoAgree" (53 : Nat) ({ cls := "TwoAgree$Picture", name := "<init>", desc := "()V" } : MethodName) "TwoAgree"),
  (Cond.methodLinkNest "TwoAgree$Picture" (20 : Nat) ({ cls := "TwoAgree$Ledger", name := "<init>", desc := "()V" } : MethodName) "TwoAgree"),
  (Cond.methodLinkNest "TwoAgree" (60 : Nat) ({ cls := "TwoAgree$Words", name := "<init>", desc := "()V" } : MethodName) "TwoAgree"),
  (Cond.methodLinkNest "TwoAgree" (71 : Nat) ({ cls := "TwoAgree$Shelf", name := "<init>", desc := "()V" } : MethodName) "TwoAgree"),
  (Cond.methodLinkNest "TwoAgree$Island" (55 : Nat) ({ cls := "TwoAgree", name := "within", desc := "(II)Z" } : MethodName) "TwoAgree"),
  (Cond.methodLinkNest "TwoAgree$Parser" (67 : Nat) ({ cls := "TwoAgree", name := "within", desc := "(II)Z" } : MethodName) "TwoAgree"),
  (Cond.methodLinkNest "TwoAgree$Law" (30 : Nat) ({ cls := "TwoAgree", name := "within", desc := "(II)Z" } : MethodName) "TwoAgree"),
  (Cond.methodLinkNest "TwoAgree$Crowd" (81 : Nat) ({ cls := "TwoAgree", name := "within", desc := "(II)Z" } : MethodName) "TwoAgree"),
  (Cond.methodLinkNest "TwoAgree$Crowd" (97 : Nat) ({ cls := "TwoAgree", name := "has", desc := "(II)Z" } : MethodName) "TwoAgree"),
  (Cond.methodLinkNest "TwoAgree$Crowd" (118 : Nat) ({ cls := "TwoAgree", name := "lowestOf", desc := "(I)I" } : MethodName) "TwoAgree"),
  (Cond.methodLinkNest "TwoAgree$Bribes" (91 : Nat) ({ cls := "TwoAgree", name := "has", desc := "(II)Z" } : MethodName) "TwoAgree"),
  (Cond.methodLinkNest "TwoAgree$Ledger" (13 : Nat) ({ cls := "TwoAgree", name := "within", desc := "(II)Z" } : MethodName) "TwoAgree"),
  (Cond.methodLinkNest "TwoAgree$Words" (22 : Nat) ({ cls := "TwoAgree", name := "within", desc := "(II)Z" } : MethodName) "TwoAgree")]
def gisNest (w : Cond) : Bool := match w with
  | .methodLinkNest _ _ _ _ => true
  | _ => false
theorem gnest_ok : gnest.all gisNest = true := by decide +kernel
def gws (ad : Nat → Nat) (cA : Nat → ClassId) (σ : gS) : va_W := gL ad cA σ 0 gsh
def gty (cA : Nat → ClassId) : List (ClassId × FieldType) := gYL cA 0 gsh
theorem gws_get {ad : Nat → Nat} {cA : Nat → ClassId} (σ : gS) {c : Nat} {s : gSh} (h : gsh[c]? = some s) : (gws ad cA σ)[c]? = some (ad c, gE ad cA σ c s) := by
  have := gL_get ad cA σ gsh 0 c s h
  rw [Nat.zero_add] at this
  exact this
theorem gws_set {ad : Nat → Nat} {cA : Nat → ClassId} {σ τ : gS} {c : Nat} {s : gSh} (h : gsh[c]? = some s) (hj : ∀ j, j ≠ c → σ.1 j = τ.1 j ∧ σ.2 j = τ.2 j) : (gws ad cA σ).set c (ad c, gE ad cA τ c s) = gws ad cA τ := by
  have := gL_set (ad := ad) (cA := cA) (σ := σ) (τ := τ) gsh 0 c s h (fun j h => hj j (by rw [Nat.zero_add] at h; exact h))
  rw [Nat.zero_add] at this
  exact this
theorem gty_get {cA : Nat → ClassId} {c : Nat} {s : gSh} {q : ClassId × FieldType} (h : gsh[c]? = some s) (hq : q ∈ gTy cA c s) : ∃ t0 : Nat, (gty cA)[t0]? = some q :=
  List.getElem?_of_mem (gYL_mem cA gsh 0 c s q h (by rw [Nat.zero_add]; exact hq))
/-- the state with one row of ints, or of longs, changed -/
def gsi (σ : gS) (c : Nat) (f : Nat → Int32) : gS := (fun j => if j = c then f else σ.1 j, σ.2)
def gsl (σ : gS) (c : Nat) (f : Nat → Int64) : gS := (σ.1, fun j => if j = c then f else σ.2 j)
abbrev gpi (σ : gS) (c k : Nat) (x : Int32) : gS := gsi σ c (upd (σ.1 c) k x)
abbrev gpl (σ : gS) (c k : Nat) (x : Int64) : gS := gsl σ c (vp_updL (σ.2 c) k x)
theorem gsi_s {σ : gS} {c : Nat} {f : Nat → Int32} : (gsi σ c f).1 c = f := if_pos rfl
theorem gsi_n {σ : gS} {c j : Nat} {f : Nat → Int32} (h : j ≠ c) : (gsi σ c f).1 j = σ.1 j := if_neg h
theorem gsi_l {σ : gS} {c : Nat} {f : Nat → Int32} : (gsi σ c f).2 = σ.2 := rfl
theorem gsl_s {σ : gS} {c : Nat} {f : Nat → Int64} : (gsl σ c f).2 c = f := if_pos rfl
theorem gsl_n {σ : gS} {c j : Nat} {f : Nat → Int64} (h : j ≠ c) : (gsl σ c f).2 j = σ.2 j := if_neg h
theorem gsl_i {σ : gS} {c : Nat} {f : Nat → Int64} : (gsl σ c f).1 = σ.1 := rfl
theorem gws_seti {ad : Nat → Nat} {cA : Nat → ClassId} {σ : gS} {c : Nat} {s : gSh} {f : Nat → Int32} (h : gsh[c]? = some s) : (gws ad cA σ).set c (ad c, gE ad cA (gsi σ c f) c s) = gws ad cA (gsi σ c f) :=
  gws_set h (fun _ h => ⟨(gsi_n h).symm, rfl⟩)
theorem gws_setl {ad : Nat → Nat} {cA : Nat → ClassId} {σ : gS} {c : Nat} {s : gSh} {f : Nat → Int64} (h : gsh[c]? = some s) : (gws ad cA σ).set c (ad c, gE ad cA (gsl σ c f) c s) = gws ad cA (gsl σ c f) :=
  gws_set h (fun _ h => ⟨rfl, (gsl_n h).symm⟩)
/-- what a cell is -/
def gcf (c ci k : Nat) : Option (Option Nat) := match gsh[c]? with
  | some (.inl o) => if o.1 = ci then o.2[k]? else none
  | _ => none
def gia (c : Nat) : Option Nat := match gsh[c]? with
  | some (.inr (.inl n)) => some n
  | _ => none
def gla (c : Nat) : Option Nat := match gsh[c]? with
  | some (.inr (.inr (.inl n))) => some n
  | _ => none
def gra (c : Nat) : Option (List Nat) := match gsh[c]? with
  | some (.inr (.inr (.inr js))) => some js
  | _ => none
def gcls (c : Nat) : Option Nat := match gsh[c]? with
  | some (.inl o) => some o.1
  | _ => none
theorem gcf_spec {c ci k : Nat} {x : Option Nat} (h : gcf c ci k = some x) : ∃ fs, gsh[c]? = some (.inl (ci, fs)) ∧ fs[k]? = some x := by
  unfold gcf at h
  split at h
  · rename_i o ho
    split at h
    · rename_i hc
      exact ⟨o.2, by rw [ho, ← hc], h⟩
    · cases h
  · cases h
theorem gia_spec {c n : Nat} (h : gia c = some n) : gsh[c]? = some (.inr (.inl n)) := by
  unfold gia at h
  split at h
  · rename_i m ho
    cases h
    exact ho
  · cases h
theorem gla_spec {c n : Nat} (h : gla c = some n) : gsh[c]? = some (.inr (.inr (.inl n))) := by
  unfold gla at h
  split at h
  · rename_i m ho
    cases h
    exact ho
  · cases h
theorem gra_spec {c : Nat} {js : List Nat} (h : gra c = some js) : gsh[c]? = some (.inr (.inr (.inr js))) := by
  unfold gra at h
  split at h
  · rename_i m ho
    cases h
    exact ho
  · cases h
theorem gcls_spec {c ci : Nat} (h : gcls c = some ci) : ∃ fs, gsh[c]? = some (.inl (ci, fs)) := by
  unfold gcls at h
  split at h
  · rename_i o ho
    cases h
    exact ⟨o.2, ho⟩
  · cases h
/-- the statics that are read: arrays of ints (class, name, cell, contents) -/
def gstat : List (String × String × Nat × List Int32) := [(RX3, "LEAST", 1000, [0, 0, 0, -1, 0, 0, 0]), (RX3, "MOST", 1001, [7, 12, 99, 5, 5, 2, 99]), (RX9, "ABOVE", 1002, [-1, 0, 0, 2, 1, 3, 0, 4]), (RX9, "OWN", 1003, [1, 10, 11, 2, 20, 0, 0, 0, 0, 30, 0, 0, 0, 41, 40, 0, 0, 0, 50, 0, 0, 0, 0, 60, 70, 0, 0, 0, 0, 80, 0, 81])]
def gtxt : List Int32 := [116, 101, 107, 112, 100, 99]
def gX (ad : Nat → Nat) (A : Nat → Prop) (U : State) : Prop :=
  (∀ w ∈ gnest, va_Nw w U) ∧
  (∀ q ∈ gstat, va_Z q.1 q.2.1 "[I" (.ref (ad q.2.2.1)) A U U.heap ∧ va_T .int (ad q.2.2.1) q.2.2.2.length (fun j => .int (q.2.2.2.getD j 0)) A U U.heap) ∧
  va_Z "java/lang/String" "COMPACT_STRINGS" "Z" (.int 1) A U U.heap ∧ vk_R RX6 83 "tekpdc" (ad 1004) U ∧ vk_S 1 [6] [gtxt] (fun _ => ad 1004) (fun _ => ad 1005) A U U.heap
/-- words of nests: kept as the machine warms -/
theorem gX_nest {w : Cond} (h : w ∈ gnest) : ∃ a i x h', w = .methodLinkNest a i x h' := by
  have := List.all_eq_true.mp gnest_ok w h
  cases w <;> first | exact ⟨_, _, _, _, rfl⟩ | (simp [gisNest] at this)
theorem gX.to {ad : Nat → Nat} {A : Nat → Prop} {s U : State} {locs : List Loc} (hW : s.WarmedH U.vm) (hS : va_S A s.heap U.heap locs) (h : gX ad A s) : gX ad A U := by
  obtain ⟨h1, h2, h3, h4, h5⟩ := h
  refine ⟨fun w hw => ?_, fun q hq => ⟨((h2 q hq).1.moved hW.alike).kept hS.2.1, ((h2 q hq).2.moved hW.alike).kept hS.2.1⟩, (h3.moved hW.alike).kept hS.2.1, h4.warm hW, (h5.moved hW.alike).kept hS.2.1⟩
  have h0 := h1 w hw
  obtain ⟨a, i, x, h', rfl⟩ := gX_nest hw
  exact h0.warmM hW
theorem gX.blind {ad : Nat → Nat} {A : Nat → Prop} {U V : State} (hv : V.vm = U.vm) (hh : V.heap = U.heap) (h : gX ad A U) : gX ad A V := by
  obtain ⟨h1, h2, h3, h4, h5⟩ := h
  have hal : U.vm.Alike V.vm := by rw [hv]; exact Vm.Alike.refl U.vm
  refine ⟨fun w hw => ?_, fun q hq => ?_, ?_, h4.same hv, ?_⟩
  · have h0 := h1 w hw
    obtain ⟨a, i, x, h', rfl⟩ := gX_nest hw
    exact h0.same rfl hv.symm
  · rw [hh]
    exact ⟨(h2 q hq).1.moved hal, (h2 q hq).2.moved hal⟩
  · rw [hh]
    exact h3.moved hal
  · rw [hh]
    exact h5.moved hal
abbrev gM : Type := MethodName × ByteArray × Nat × Option FieldType
def gR (d : Nat) : Room := { frames := d, cells := 0, slots := 0, locals := 64 * d }
/-- the world of a state -/
def gW (ad : Nat → Nat) (cA : Nat → ClassId) (D : va_G) (A : Nat → Prop) (σ : gS) (U : State) : Prop :=
  va_P D gcl (gws ad cA σ) U.heap ∧ va_K D gcl (gty cA) U ∧ (∀ τ, va_D A (gws ad cA τ)) ∧ gX ad A U
def gQ (ad : Nat → Nat) (cA : Nat → ClassId) (D : va_G) (A : Nat → Prop) (Q : Option Value → gS → Prop) : Array Value → State → Outcome → State → Prop := fun _ st oc t =>
  (∃ (r : Option Value) (τ : gS), oc = .returned (r.map (gtr ad)) ∧ Q r τ ∧ va_P D gcl (gws ad cA τ) t.heap) ∧ va_F A st t
def gC (M : gM) (ad : Nat → Nat) (cA : Nat → ClassId) (D : va_G) (A : Nat → Prop) (p : Program) (s : State) (m : MethodId) (args : Array Value) (meth : Method) (c : Code) : Prop :=
  p.tables.exec = Jvm.exec ∧ c.code = M.2.1 ∧ c.maxLocals = M.2.2.1 ∧ meth.sig.returnType = M.2.2.2 ∧ meth.locks = false ∧ s.vm.findClass M.1.cls = some m.cls ∧ (∀ w ∈ gtb, w.before args s = true) ∧ va_K D gcl (gty cA) s ∧ (∀ τ, va_D A (gws ad cA τ)) ∧ gX ad A s
/-- locals: by their slots -/
def gLs (ad : Nat → Nat) (nL : Nat) (L : List (Option Value)) (ls : Array Slot) : Prop := ls.size = nL ∧ lv_wf ls ∧ ∀ (i : Nat) (v : Value), L[i]? = some (some v) → ls[i]? = some (.val (gtr ad v))
def G (M : gM) (d pc : Nat) (L : List (Option Value)) (st : List Value) (σ : gS) (Q : Option Value → gS → Prop) : Prop :=
  ∀ (ad : Nat → Nat) (cA : Nat → ClassId) (D : va_G) (A : Nat → Prop) (p : Program) (l : Launch) (e : Env) (s : State) (m : MethodId) (args : Array Value) (below : List Frame) (meth : Method) (c : Code) (H : Heap) (locs : List Loc) (ls : Array Slot),
    gC M ad cA D A p s m args meth c → va_P D gcl (gws ad cA σ) H → va_S A s.heap H locs → gLs ad M.2.2.1 L ls →
    W p l e (gR d) s m args below meth c H locs 0 0 (MQ below (gQ ad cA D A Q) args s 0 0 A) (F0 m pc ls (st.map (gtr ad)))
def Ct (d : Nat) (M : gM) (vs : List Value) (σ : gS) (Q : Option Value → gS → Prop) : Prop :=
  ∀ (ad : Nat → Nat) (cA : Nat → ClassId) (D : va_G) (A : Nat → Prop) (l : Launch), Met l M.1 (Cond.code M.1 M.2.1 M.2.2.1 M.2.2.2 :: gtb) (gR d) (va_Pc (vs.map (gtr ad)) (gW ad cA D A σ)) (gQ ad cA D A Q) 0 0 A
/-- the locals at a method's entry -/
def gent : List Value → List (Option Value)
  | [] => []
  | v :: r => if v.category = 2 then some v :: none :: gent r else some v :: gent r
