/-! S and C: what a pure term answers, the machine answers -/
def gfu : Nat := 2000
def gix (i : Int32) (n : Nat) : Bool := !(decide (i < 0) || decide (n ≤ i.toNatClampNeg))
theorem gix_in {i : Int32} {n : Nat} (h : gix i n = true) : vp_in i n := by
  unfold gix at h
  intro q
  rcases q with q | q <;> simp [q] at h
def gzb (x : Int32) : Bool := x == 0 || x == 1
theorem gzb_n {x : Int32} (h : gzb x = true) : narrow .boolean (.int x) = .int x := by
  unfold gzb at h
  simp only [Bool.or_eq_true, beq_iff_eq] at h
  rcases h with rfl | rfl <;> rfl
def gshc (i : Int32) : Nat := 47 + 2 * i.toNatClampNeg
def gush (x y : Int32) : Int32 := (x.toUInt32 >>> (y.toUInt32 &&& Int32.toUInt32 31)).toInt32
def grem (x y : Int32) : Int32 := x - x / y * y
def glrem (x y : Int64) : Int64 := x - x / y * y
def gup {α : Type} (τ : gS) (k : gS → Option α) : Option α := k τ
def glt {α : Type} (x : Int32) (k : Int32 → Option α) : Option α := k x
def gll {α : Type} (x : Int64) (k : Int64 → Option α) : Option α := k x
abbrev rI (σ : gS) : Int32 → Option Value × gS := fun x => (some (.int x), σ)
abbrev rJ (σ : gS) : Int64 → Option Value × gS := fun x => (some (.long x), σ)
abbrev wI : Int32 × gS → Option Value × gS := fun q => (some (.int q.1), q.2)
abbrev wJ : Int64 × gS → Option Value × gS := fun q => (some (.long q.1), q.2)
abbrev wV : gS → Option Value × gS := fun τ => (none, τ)
def S {α : Type} (res : α → Option Value × gS) (M : gM) (d pc : Nat) (L : List (Option Value)) (st : List Value) (σ : gS) (o : Option α) : Prop :=
  ∀ (a : α) (Q : Option Value → gS → Prop), o = some a → Q (res a).1 (res a).2 → G M d pc L st σ Q
def C {α : Type} (res : α → Option Value × gS) (d : Nat) (M : gM) (vs : List Value) (σ : gS) (o : Option α) : Prop :=
  ∀ (a : α) (Q : Option Value → gS → Prop), o = some a → Q (res a).1 (res a).2 → Ct d M vs σ Q
/-- what is known of locals may be forgotten -/
def gLe : List (Option Value) → List (Option Value) → Prop
  | [], _ => True
  | none :: r, [] => gLe r []
  | none :: r, _ :: s => gLe r s
  | some _ :: _, [] => False
  | some v :: r, w :: s => w = some v ∧ gLe r s
theorem gLe_get : ∀ (L2 L : List (Option Value)), gLe L2 L → ∀ (i : Nat) (v : Value), L2[i]? = some (some v) → L[i]? = some (some v)
  | [], _, _, i, v, h => by simp at h
  | none :: r, [], hl, 0, v, h => by simp at h
  | none :: r, [], hl, i + 1, v, h => by
    have := gLe_get r [] hl i v (by simpa using h)
    simp at this
  | none :: r, _ :: s, hl, 0, v, h => by simp at h
  | none :: r, _ :: s, hl, i + 1, v, h => by
    have := gLe_get r s hl i v (by simpa using h)
    simpa using this
  | some _ :: _, [], hl, _, _, _ => hl.elim
  | some u :: r, w :: s, hl, 0, v, h => by
    have : u = v := by simpa using h
    subst this
    simp [hl.1]
  | some u :: r, w :: s, hl, i + 1, v, h => by
    have := gLe_get r s hl.2 i v (by simpa using h)
    simpa using this
theorem G.wk {M : gM} {d pc : Nat} {L L2 : List (Option Value)} {st : List Value} {σ : gS} {Q : Option Value → gS → Prop} (hl : gLe L2 L) (k : G M d pc L2 st σ Q) : G M d pc L st σ Q := by
  intro ad cA D A p l e s m args below meth c H locs ls hC hP hS hls
  exact k ad cA D A p l e s m args below meth c H locs ls hC hP hS ⟨hls.1, hls.2.1, fun i v hi => hls.2.2 i v (gLe_get L2 L hl i v hi)⟩
section SRows
variable {α β : Type} {res : α → Option Value × gS} {M : gM} {d pc t e pc2 : Nat} {L L2 : List (Option Value)} {st st2 stk : List Value} {σ σ2 : gS} {o o1 o2 : Option α}
theorem S.of1 (h : ∀ Q, G M d pc2 L2 st2 σ2 Q → G M d pc L st σ Q) (k : S res M d pc2 L2 st2 σ2 o) : S res M d pc L st σ o := fun a Q h1 h2 => h Q (k a Q h1 h2)
theorem S.wk (hl : gLe L2 L) (k : S res M d pc L2 st σ o) : S res M d pc L st σ o := fun a Q h1 h2 => G.wk hl (k a Q h1 h2)
theorem S.br {c : Prop} [hc : Decidable c] (h : ∀ Q, (c → G M d t L st2 σ Q) → (¬ c → G M d e L st2 σ Q) → G M d pc L st σ Q) (kt : c → S res M d t L st2 σ o1) (kf : ¬ c → S res M d e L st2 σ o2) : S res M d pc L st σ (if c then o1 else o2) := by
  intro a Q h1 h2
  refine h Q (fun q => kt q a Q ?_ h2) (fun q => kf q a Q ?_ h2)
  · rw [if_pos q] at h1
    exact h1
  · rw [if_neg q] at h1
    exact h1
theorem S.cs {c : Prop} [hc : Decidable c] (kt : c → S res M d pc L st σ o1) (kf : ¬ c → S res M d pc L st σ o2) : S res M d pc L st σ (if c then o1 else o2) := by
  by_cases q : c
  · rw [if_pos q]
    exact kt q
  · rw [if_neg q]
    exact kf q
theorem S.no : S res M d pc L st σ none := fun a Q h1 _ => by cases h1
theorem S.chk {c : Prop} [hc : Decidable c] (k : c → S res M d pc L st σ o) : S res M d pc L st σ (if c then o else none) := S.cs k (fun _ => S.no)
theorem S.nz {c : Prop} [hc : Decidable c] (k : ¬ c → S res M d pc L st σ o) : S res M d pc L st σ (if c then none else o) := S.cs (fun _ => S.no) k
theorem S.ret {a : α} (h : ∀ Q : Option Value → gS → Prop, Q (res a).1 (res a).2 → G M d pc L st σ Q) : S res M d pc L st σ (some a) := fun b Q h1 h2 => by
  cases h1
  exact h Q h2
theorem S.gup {ko : gS → Option α} (k : ∀ τ, S res M d pc L st τ (ko τ)) : S res M d pc L st σ (gup σ ko) := k σ
theorem S.glt {ko : Int32 → Option α} {Lf : Int32 → List (Option Value)} {x : Int32} (k : ∀ y, S res M d pc (Lf y) st σ (ko y)) : S res M d pc (Lf x) st σ (glt x ko) := k x
theorem S.gll {ko : Int64 → Option α} {Lf : Int64 → List (Option Value)} {x : Int64} (k : ∀ y, S res M d pc (Lf y) st σ (ko y)) : S res M d pc (Lf x) st σ (gll x ko) := k x
/-- calls: what comes behind them -/
theorem S.callG {res2 : β → Option Value × gS} {M2 : gM} {d2 : Nat} {vs : List Value} {b2 : Option β} {ko : β → Option α} (hc : C res2 d2 M2 vs σ b2)
    (h : ∀ Q : Option Value → gS → Prop, Ct d2 M2 vs σ (fun r τ => G M d (pc + 3) L (r.toList ++ st) τ Q) → G M d pc L stk σ Q)
    (k : ∀ b, S res M d (pc + 3) L ((res2 b).1.toList ++ st) (res2 b).2 (ko b)) : S res M d pc L stk σ (b2.bind ko) := by
  intro a Q h1 h2
  obtain ⟨b, hb, hk⟩ := Option.bind_eq_some_iff.mp h1
  exact h Q (hc b _ hb (k b a Q hk h2))
theorem S.callT {res2 : β → Option Value × gS} {M2 : gM} {d2 : Nat} {vs : List Value} {b : β} (hc : C res2 d2 M2 vs σ (some b))
    (h : ∀ Q : Option Value → gS → Prop, Ct d2 M2 vs σ (fun r τ => G M d (pc + 3) L (r.toList ++ st) τ Q) → G M d pc L stk σ Q)
    (k : S res M d (pc + 3) L ((res2 b).1.toList ++ st) (res2 b).2 o) : S res M d pc L stk σ o := by
  intro a Q h1 h2
  exact h Q (hc b _ rfl (k a Q h1 h2))
theorem C.of {vs : List Value} (hy : plainName M.1.cls = true) (hn : (gent vs).length ≤ M.2.2.1) (hL : gent vs ++ List.replicate (M.2.2.1 - (gent vs).length) none = L) (k : S res M d 0 L [] σ o) : C res d M vs σ o :=
  fun a Q h1 h2 => Ct.of hy hn hL (k a Q h1 h2)
end SRows
/-- arraycopy between rows of ints, of longs -/
def gMcp : List Cond := [.native arraycopyName, .static arraycopyName, .initialized "java/lang/System"]
section Copy
variable {M : gM} {d pc : Nat} {L : List (Option Value)} {st : List Value} {σ : gS} {Q : Option Value → gS → Prop}
theorem g_copyi {idx a0 a1 n0 n1 : Nat} {sp dp n : Int32} (hk : Cond.methodLink M.1.cls idx arraycopyName ∈ gtb) (h3w : ∀ w ∈ gMcp, w ∈ gtb) (ha0 : gia a0 = some n0) (ha1 : gia a1 = some n1) (h1 : ¬ sp < 0) (h2 : ¬ dp < 0) (h3 : ¬ n < 0) (h4 : sp.toNatClampNeg + n.toNatClampNeg ≤ n0) (h5 : dp.toNatClampNeg + n.toNatClampNeg ≤ n1) (hd1 : 1 ≤ d) (hr : (st.map fun v => v.category).sum ≤ 8) (hd : decode M.2.1 pc = .ok (.invokestatic idx, 3))
    (kk : G M d (pc + 3) L st (gsi σ a1 (va_cpy (σ.1 a0) (σ.1 a1) sp.toNatClampNeg dp.toNatClampNeg n.toNatClampNeg)) Q) : G M d pc L (.int n :: .int dp :: .ref a1 :: .int sp :: .ref a0 :: st) σ Q := by
  intro ad cA D A p l e s m args below meth co H locs ls hC hP hS hl
  have e0 := gia_spec ha0
  have e1 := gia_spec ha1
  obtain ⟨t0, ht0⟩ := gty_get (cA := cA) (q := (cA a0, .int)) e0 List.mem_cons_self
  obtain ⟨t1, ht1⟩ := gty_get (cA := cA) (q := (cA a1, .int)) e1 List.mem_cons_self
  refine va_copyi hC.1 hC.2.1 (hC.2.2.1.trans hl.1.symm) hC.2.2.2.2.2.1 (hC.2.2.2.2.2.2.1 _ hk) (hC.2.2.2.2.2.2.1 _ (h3w _ (List.mem_of_getElem? (i := 0) rfl))) (hC.2.2.2.2.2.2.1 _ (h3w _ (List.mem_of_getElem? (i := 1) rfl))) (hC.2.2.2.2.2.2.1 _ (h3w _ (List.mem_of_getElem? (i := 2) rfl))) hC.2.2.2.2.2.2.2.1 hP (hC.2.2.2.2.2.2.2.2.1 σ) hS a0 a1 t0 t1 (gws_get (ad := ad) (cA := cA) σ e0) (gws_get (ad := ad) (cA := cA) σ e1) ht0 ht1 rfl h1 h2 h3 h4 h5 (fun i _ => rfl) hd1 ?_ hd (fun H1 locs1 hP1 hD1 hS1 => ?_)
  · rw [gsum]
    have : nativeFrameWords "java/lang/System" "arraycopy" 5 ≤ 30 := by decide +kernel
    show _ ≤ 64 * d
    omega
  · refine kk ad cA D A p l e s m args below meth co H1 locs1 ls hC ?_ hS1 hl
    rw [← gws_seti e1]
    have hset : gE ad cA (gsi σ a1 (va_cpy (σ.1 a0) (σ.1 a1) sp.toNatClampNeg dp.toNatClampNeg n.toNatClampNeg)) a1 (.inr (.inl n1)) = .inl (cA a1, (n1, .inl (va_cpy (σ.1 a0) (σ.1 a1) sp.toNatClampNeg dp.toNatClampNeg n.toNatClampNeg))) := by
      show (Sum.inl (cA a1, (n1, Sum.inl ((gsi σ a1 _).1 a1))) : va_E) = _
      rw [gsi_s]
    rw [hset]
    exact hP1
theorem g_copyl {idx a0 a1 n0 n1 : Nat} {sp dp n : Int32} (hk : Cond.methodLink M.1.cls idx arraycopyName ∈ gtb) (h3w : ∀ w ∈ gMcp, w ∈ gtb) (ha0 : gla a0 = some n0) (ha1 : gla a1 = some n1) (h1 : ¬ sp < 0) (h2 : ¬ dp < 0) (h3 : ¬ n < 0) (h4 : sp.toNatClampNeg + n.toNatClampNeg ≤ n0) (h5 : dp.toNatClampNeg + n.toNatClampNeg ≤ n1) (hd1 : 1 ≤ d) (hr : (st.map fun v => v.category).sum ≤ 8) (hd : decode M.2.1 pc = .ok (.invokestatic idx, 3))
    (kk : G M d (pc + 3) L st (gsl σ a1 (va_cpy (σ.2 a0) (σ.2 a1) sp.toNatClampNeg dp.toNatClampNeg n.toNatClampNeg)) Q) : G M d pc L (.int n :: .int dp :: .ref a1 :: .int sp :: .ref a0 :: st) σ Q := by
  intro ad cA D A p l e s m args below meth co H locs ls hC hP hS hl
  have e0 := gla_spec ha0
  have e1 := gla_spec ha1
  obtain ⟨t0, ht0⟩ := gty_get (cA := cA) (q := (cA a0, .long)) e0 List.mem_cons_self
  obtain ⟨t1, ht1⟩ := gty_get (cA := cA) (q := (cA a1, .long)) e1 List.mem_cons_self
  refine va_copyl hC.1 hC.2.1 (hC.2.2.1.trans hl.1.symm) hC.2.2.2.2.2.1 (hC.2.2.2.2.2.2.1 _ hk) (hC.2.2.2.2.2.2.1 _ (h3w _ (List.mem_of_getElem? (i := 0) rfl))) (hC.2.2.2.2.2.2.1 _ (h3w _ (List.mem_of_getElem? (i := 1) rfl))) (hC.2.2.2.2.2.2.1 _ (h3w _ (List.mem_of_getElem? (i := 2) rfl))) hC.2.2.2.2.2.2.2.1 hP (hC.2.2.2.2.2.2.2.2.1 σ) hS a0 a1 t0 t1 (gws_get (ad := ad) (cA := cA) σ e0) (gws_get (ad := ad) (cA := cA) σ e1) ht0 ht1 rfl h1 h2 h3 h4 h5 (fun i _ => rfl) hd1 ?_ hd (fun H1 locs1 hP1 hD1 hS1 => ?_)
  · rw [gsum]
    have : nativeFrameWords "java/lang/System" "arraycopy" 5 ≤ 30 := by decide +kernel
    show _ ≤ 64 * d
    omega
  · refine kk ad cA D A p l e s m args below meth co H1 locs1 ls hC ?_ hS1 hl
    rw [← gws_setl e1]
    have hset : gE ad cA (gsl σ a1 (va_cpy (σ.2 a0) (σ.2 a1) sp.toNatClampNeg dp.toNatClampNeg n.toNatClampNeg)) a1 (.inr (.inr (.inl n1))) = .inl (cA a1, (n1, .inr (.inl (va_cpy (σ.2 a0) (σ.2 a1) sp.toNatClampNeg dp.toNatClampNeg n.toNatClampNeg)))) := by
      show (Sum.inl (cA a1, (n1, Sum.inr (Sum.inl ((gsl σ a1 _).2 a1)))) : va_E) = _
      rw [gsl_s]
    rw [hset]
    exact hP1
end Copy
