/-! rows over G: fields, arrays, statics, calls, entries -/
/-- a field, as a class' file names it: class ci, slot k, its type, whether it is final -/
def gFL (own : String) (idx ci k : Nat) (ty : FieldType) (fin : Bool) : Prop :=
  ∃ (C : String) (T : u_T) (N : Nat) (ty0 : Nat → FieldType), gcl[ci]? = some (C, T, N) ∧ (∀ w ∈ u_ws C T N, w ∈ gtb) ∧ (∀ k, k < N → parseFieldDescriptor (T k).2.2.1 = some (ty0 k)) ∧ (∀ a, a < N → ∀ b, b < N → a ≠ b → (T a).2.1 ≠ (T b).2.1) ∧ k < N ∧ Cond.fieldLink own idx (T k).1 (T k).2.1 (T k).2.2.1 ∈ gtb ∧ parseFieldDescriptor (T k).2.2.1 = some ty ∧ (T k).2.2.2 = fin
/-- a method, as a class' file names it -/
def gLB (M2 : gM) (n : Nat) : Prop := Cond.code M2.1 M2.2.1 M2.2.2.1 M2.2.2.2 ∈ gtb ∧ Cond.initialized M2.1.cls ∈ gtb ∧ M2.1.cls ≠ "java/lang/invoke/MethodHandle" ∧ M2.1.cls ≠ "java/lang/invoke/VarHandle" ∧ (parseMethodDescriptor M2.1.desc).map (fun d => d.parameters.length) = some n
def gLV (own : String) (idx : Nat) (M2 : gM) (n : Nat) : Prop := gLB M2 n ∧ Cond.methodLink own idx M2.1 ∈ gtb ∧ Cond.instanceMethod M2.1 ∈ gtb ∧ Cond.selects M2.1.cls M2.1 M2.1 ∈ gtb
def gLS (own : String) (idx : Nat) (M2 : gM) (n : Nat) : Prop := gLB M2 n ∧ Cond.methodLink own idx M2.1 ∈ gtb ∧ Cond.static M2.1 ∈ gtb
def gLSN (own : String) (idx : Nat) (M2 : gM) (n : Nat) : Prop := gLB M2 n ∧ (∃ host, Cond.methodLinkNest own idx M2.1 host ∈ gnest) ∧ Cond.static M2.1 ∈ gtb
section GRows2
variable {M : gM} {d pc : Nat} {L L2 : List (Option Value)} {st : List Value} {σ : gS} {Q : Option Value → gS → Prop}
theorem g_geti {idx ci k c : Nat} {ty : FieldType} {fin : Bool} (hf : gFL M.1.cls idx ci k ty fin) (hc : gcf c ci k = some none) (hd : decode M.2.1 pc = .ok (.getfield idx, 3)) (kk : G M d (pc + 3) L (.int (σ.1 c k) :: st) σ Q) : G M d pc L (.ref c :: st) σ Q := by
  intro ad cA D A p l e s m args below meth co H locs ls hC hP hS hl
  obtain ⟨fs, h1, h2⟩ := gcf_spec hc
  obtain ⟨C, T, N, ty0, q1, q2, q3, q4, q5, q6, q7, q8⟩ := hf
  have hg := gws_get (ad := ad) (cA := cA) σ h1
  have hv : (gF ad (σ.1 c) 0 fs)[k]? = some (.int (σ.1 c k)) := by
    have := gF_int ad (σ.1 c) fs 0 k h2
    rw [Nat.zero_add] at this
    exact this
  exact va_get (D := D) (ci := ci) (C := C) (T := T) (N := N) hC.1 hC.2.1 hC.2.2.2.2.2.2.1 q2 hC.2.2.2.2.2.1 hC.2.2.2.2.2.2.2.1 hP c hg q1 k q5 (hC.2.2.2.2.2.2.1 _ q6) (fun _ h9 => h9) hv hd (kk ad cA D A p l e s m args below meth co H locs ls hC hP hS hl)
theorem g_getr {idx ci k c j : Nat} {ty : FieldType} {fin : Bool} (hf : gFL M.1.cls idx ci k ty fin) (hc : gcf c ci k = some (some j)) (hd : decode M.2.1 pc = .ok (.getfield idx, 3)) (kk : G M d (pc + 3) L (.ref j :: st) σ Q) : G M d pc L (.ref c :: st) σ Q := by
  intro ad cA D A p l e s m args below meth co H locs ls hC hP hS hl
  obtain ⟨fs, h1, h2⟩ := gcf_spec hc
  obtain ⟨C, T, N, ty0, q1, q2, q3, q4, q5, q6, q7, q8⟩ := hf
  have hg := gws_get (ad := ad) (cA := cA) σ h1
  exact va_get (D := D) (ci := ci) (C := C) (T := T) (N := N) hC.1 hC.2.1 hC.2.2.2.2.2.2.1 q2 hC.2.2.2.2.2.1 hC.2.2.2.2.2.2.2.1 hP c hg q1 k q5 (hC.2.2.2.2.2.2.1 _ q6) (fun _ h9 => h9) (gF_ref ad (σ.1 c) fs 0 k j h2) hd (kk ad cA D A p l e s m args below meth co H locs ls hC hP hS hl)
theorem g_puti {idx ci k c : Nat} {x : Int32} {ty : FieldType} (hf : gFL M.1.cls idx ci k ty false) (hc : gcf c ci k = some none) (hn : narrow ty (.int x) = .int x) (hfit : fits ty (.int x) = true) (hd : decode M.2.1 pc = .ok (.putfield idx, 3)) (kk : G M d (pc + 3) L st (gpi σ c k x) Q) : G M d pc L (.int x :: .ref c :: st) σ Q := by
  intro ad cA D A p l e s m args below meth co H locs ls hC hP hS hl
  obtain ⟨fs, h1, h2⟩ := gcf_spec hc
  obtain ⟨C, T, N, ty0, q1, q2, q3, q4, q5, q6, q7, q8⟩ := hf
  have hg := gws_get (ad := ad) (cA := cA) σ h1
  refine va_put (D := D) (ci := ci) (C := C) (T := T) (N := N) hC.1 hC.2.1 hC.2.2.2.2.2.2.1 q2 ty0 q3 q4 hC.2.2.2.2.2.1 hC.2.2.2.2.2.2.2.1 hP (hC.2.2.2.2.2.2.2.2.1 σ) hS c hg q1 k q5 (hC.2.2.2.2.2.2.1 _ q6) (fun _ h9 => h9) q8 (v := .int x) q7 hn hfit (by rw [gF_len]; exact (List.getElem?_eq_some_iff.mp h2).1) hd (fun H1 locs1 hP1 hD1 hS1 => ?_)
  refine kk ad cA D A p l e s m args below meth co H1 locs1 ls hC ?_ hS1 hl
  rw [← gws_seti (s := .inl (ci, fs)) h1]
  have hset : gE ad cA (gpi σ c k x) c (.inl (ci, fs)) = .inr (ci, (gF ad (σ.1 c) 0 fs).set k (.int x)) := by
    show (Sum.inr (ci, gF ad ((gsi σ c (upd (σ.1 c) k x)).1 c) 0 fs) : va_E) = _
    rw [gsi_s, gF_set ad (σ.1 c) x fs 0 k h2, Nat.zero_add]
  rw [hset]
  exact hP1
theorem g_iald {a n : Nat} {i : Int32} (ha : gia a = some n) (hi : vp_in i n) (hd : decode M.2.1 pc = .ok (.iaload, 1)) (kk : G M d (pc + 1) L (.int (σ.1 a i.toNatClampNeg) :: st) σ Q) : G M d pc L (.int i :: .ref a :: st) σ Q := by
  intro ad cA D A p l e s m args below meth co H locs ls hC hP hS hl
  have h1 := gia_spec ha
  obtain ⟨t0, ht⟩ := gty_get (cA := cA) (q := (cA a, .int)) h1 List.mem_cons_self
  exact va_iald hC.1 hC.2.1 hC.2.2.2.2.2.2.2.1 hP a t0 (gws_get (ad := ad) (cA := cA) σ h1) ht hi hd (kk ad cA D A p l e s m args below meth co H locs ls hC hP hS hl)
theorem g_iast {a n : Nat} {i x : Int32} (ha : gia a = some n) (hi : vp_in i n) (hd : decode M.2.1 pc = .ok (.iastore, 1)) (kk : G M d (pc + 1) L st (gpi σ a i.toNatClampNeg x) Q) : G M d pc L (.int x :: .int i :: .ref a :: st) σ Q := by
  intro ad cA D A p l e s m args below meth co H locs ls hC hP hS hl
  have h1 := gia_spec ha
  obtain ⟨t0, ht⟩ := gty_get (cA := cA) (q := (cA a, .int)) h1 List.mem_cons_self
  refine va_iast hC.1 hC.2.1 hC.2.2.2.2.2.2.2.1 hP (hC.2.2.2.2.2.2.2.2.1 σ) hS a t0 (gws_get (ad := ad) (cA := cA) σ h1) ht hi hd (fun H1 locs1 hP1 hD1 hS1 => ?_)
  refine kk ad cA D A p l e s m args below meth co H1 locs1 ls hC ?_ hS1 hl
  rw [← gws_seti h1]
  have hset : gE ad cA (gpi σ a i.toNatClampNeg x) a (.inr (.inl n)) = .inl (cA a, (n, .inl (upd (σ.1 a) i.toNatClampNeg x))) := by
    show (Sum.inl (cA a, (n, Sum.inl ((gsi σ a (upd (σ.1 a) i.toNatClampNeg x)).1 a))) : va_E) = _
    rw [gsi_s]
  rw [hset]
  exact hP1
theorem g_lald {a n : Nat} {i : Int32} (ha : gla a = some n) (hi : vp_in i n) (hd : decode M.2.1 pc = .ok (.laload, 1)) (kk : G M d (pc + 1) L (.long (σ.2 a i.toNatClampNeg) :: st) σ Q) : G M d pc L (.int i :: .ref a :: st) σ Q := by
  intro ad cA D A p l e s m args below meth co H locs ls hC hP hS hl
  have h1 := gla_spec ha
  obtain ⟨t0, ht⟩ := gty_get (cA := cA) (q := (cA a, .long)) h1 List.mem_cons_self
  exact va_lald hC.1 hC.2.1 hC.2.2.2.2.2.2.2.1 hP a t0 (gws_get (ad := ad) (cA := cA) σ h1) ht hi hd (kk ad cA D A p l e s m args below meth co H locs ls hC hP hS hl)
theorem g_last {a n : Nat} {i : Int32} {x : Int64} (ha : gla a = some n) (hi : vp_in i n) (hd : decode M.2.1 pc = .ok (.lastore, 1)) (kk : G M d (pc + 1) L st (gpl σ a i.toNatClampNeg x) Q) : G M d pc L (.long x :: .int i :: .ref a :: st) σ Q := by
  intro ad cA D A p l e s m args below meth co H locs ls hC hP hS hl
  have h1 := gla_spec ha
  obtain ⟨t0, ht⟩ := gty_get (cA := cA) (q := (cA a, .long)) h1 List.mem_cons_self
  refine va_last hC.1 hC.2.1 hC.2.2.2.2.2.2.2.1 hP (hC.2.2.2.2.2.2.2.2.1 σ) hS a t0 (gws_get (ad := ad) (cA := cA) σ h1) ht hi hd (fun H1 locs1 hP1 hD1 hS1 => ?_)
  refine kk ad cA D A p l e s m args below meth co H1 locs1 ls hC ?_ hS1 hl
  rw [← gws_setl h1]
  have hset : gE ad cA (gpl σ a i.toNatClampNeg x) a (.inr (.inr (.inl n))) = .inl (cA a, (n, .inr (.inl (vp_updL (σ.2 a) i.toNatClampNeg x)))) := by
    show (Sum.inl (cA a, (n, Sum.inr (Sum.inl ((gsl σ a (vp_updL (σ.2 a) i.toNatClampNeg x)).2 a)))) : va_E) = _
    rw [gsl_s]
  rw [hset]
  exact hP1
theorem g_aald {a j : Nat} {js : List Nat} {i : Int32} (ha : gra a = some js) (hi : vp_in i js.length) (hj : js[i.toNatClampNeg]? = some j) (hd : decode M.2.1 pc = .ok (.aaload, 1)) (kk : G M d (pc + 1) L (.ref j :: st) σ Q) : G M d pc L (.int i :: .ref a :: st) σ Q := by
  intro ad cA D A p l e s m args below meth co H locs ls hC hP hS hl
  have h1 := gra_spec ha
  obtain ⟨t0, ht⟩ := gty_get (cA := cA) (q := (cA a, .object RX8)) h1 List.mem_cons_self
  refine va_aldq hC.1 hC.2.1 hC.2.2.2.2.2.2.2.1 hP a t0 (gws_get (ad := ad) (cA := cA) σ h1) ht hi hd ?_
  refine W.eq (g2 := F0 m (pc + 1) ls ((Value.ref j :: st).map (gtr ad))) ?_ (kk ad cA D A p l e s m args below meth co H locs ls hC hP hS hl)
  show F0 m (pc + 1) ls (va_rf ((js[i.toNatClampNeg]?).map ad) :: st.map (gtr ad)) = _
  rw [hj]
  rfl
theorem g_alen {a n : Nat} {v : Int32} (ha : gia a = some n) (hv : Int32.ofNat n = v) (hd : decode M.2.1 pc = .ok (.arraylength, 1)) (kk : G M d (pc + 1) L (.int v :: st) σ Q) : G M d pc L (.ref a :: st) σ Q := by
  intro ad cA D A p l e s m args below meth co H locs ls hC hP hS hl
  have h1 := gia_spec ha
  obtain ⟨t0, ht⟩ := gty_get (cA := cA) (q := (cA a, .int)) h1 List.mem_cons_self
  exact va_alen hC.1 hC.2.1 hC.2.2.2.2.2.2.2.1 hP a t0 (gws_get (ad := ad) (cA := cA) σ h1) ht hv hd (kk ad cA D A p l e s m args below meth co H locs ls hC hP hS hl)
theorem g_alenl {a n : Nat} {v : Int32} (ha : gla a = some n) (hv : Int32.ofNat n = v) (hd : decode M.2.1 pc = .ok (.arraylength, 1)) (kk : G M d (pc + 1) L (.int v :: st) σ Q) : G M d pc L (.ref a :: st) σ Q := by
  intro ad cA D A p l e s m args below meth co H locs ls hC hP hS hl
  have h1 := gla_spec ha
  obtain ⟨t0, ht⟩ := gty_get (cA := cA) (q := (cA a, .long)) h1 List.mem_cons_self
  exact va_alen hC.1 hC.2.1 hC.2.2.2.2.2.2.2.1 hP a t0 (gws_get (ad := ad) (cA := cA) σ h1) ht hv hd (kk ad cA D A p l e s m args below meth co H locs ls hC hP hS hl)
theorem g_gets {idx : Nat} (q : String × String × Nat × List Int32) (hq : q ∈ gstat) (hk : Cond.fieldLink M.1.cls idx q.1 q.2.1 "[I" ∈ gtb) (hd : decode M.2.1 pc = .ok (.getstatic idx, 3)) (kk : G M d (pc + 3) L (.ref q.2.2.1 :: st) σ Q) : G M d pc L st σ Q := by
  intro ad cA D A p l e s m args below meth co H locs ls hC hP hS hl
  exact va_gets hC.1 hC.2.1 (hC.2.2.2.2.2.2.2.2.2.2.1 q hq).1 hS hC.2.2.2.2.2.1 (hC.2.2.2.2.2.2.1 _ hk) (fun _ h9 => h9) hd (kk ad cA D A p l e s m args below meth co H locs ls hC hP hS hl)
theorem g_tald {i : Int32} (q : String × String × Nat × List Int32) (hq : q ∈ gstat) (hi : vp_in i q.2.2.2.length) (hd : decode M.2.1 pc = .ok (.iaload, 1)) (kk : G M d (pc + 1) L (.int (q.2.2.2.getD i.toNatClampNeg 0) :: st) σ Q) : G M d pc L (.int i :: .ref q.2.2.1 :: st) σ Q := by
  intro ad cA D A p l e s m args below meth co H locs ls hC hP hS hl
  exact va_ti hC.1 hC.2.1 (hC.2.2.2.2.2.2.2.2.2.2.1 q hq).2 hS hi rfl hd (kk ad cA D A p l e s m args below meth co H locs ls hC hP hS hl)
theorem g_tlen {v : Int32} (q : String × String × Nat × List Int32) (hq : q ∈ gstat) (hv : Int32.ofNat q.2.2.2.length = v) (hd : decode M.2.1 pc = .ok (.arraylength, 1)) (kk : G M d (pc + 1) L (.int v :: st) σ Q) : G M d pc L (.ref q.2.2.1 :: st) σ Q := by
  intro ad cA D A p l e s m args below meth co H locs ls hC hP hS hl
  exact va_tlen hC.1 hC.2.1 (hC.2.2.2.2.2.2.2.2.2.2.1 q hq).2 hS hv hd (kk ad cA D A p l e s m args below meth co H locs ls hC hP hS hl)
theorem g_cont {ad : Nat → Nat} {cA : Nat → ClassId} {D : va_G} {A : Nat → Prop} {p : Program} {l : Launch} {e : Env} {s : State} {m : MethodId} {args a : Array Value} {below : List Frame} {meth : Method} {c : Code} {H : Heap} {locs : List Loc} {ls : Array Slot} {st0 : List Value}
    (hC : gC M ad cA D A p s m args meth c) (hS : va_S A s.heap H locs) (hl : gLs ad M.2.2.1 L ls)
    (hr : va_Run p l e (gR d) s m args below meth c H locs 0 0 0 0 (F0 m pc ls st0) (st.map (gtr ad)) (gQ ad cA D A (fun r τ => G M d (pc + 3) L (r.toList ++ st) τ Q) a) A) :
    W p l e (gR d) s m args below meth c H locs 0 0 (MQ below (gQ ad cA D A Q) args s 0 0 A) (F0 m pc ls st0) := by
  intro T hT X
  obtain ⟨v, st₀, t, T', L', h0, X', hL, e1, e2, ⟨⟨r, τ, hv, hq, hP1⟩, hz, hk⟩, hst⟩ := hr T hT X
  cases hv
  rw [h0] at hz hk
  obtain ⟨t2, a1, b1⟩ := hq ad cA D A p l e s m args below meth c T'.heap (locs ++ L') ls hC (by rw [e1]; exact hP1)
    ⟨Nat.le_trans hS.1 (by rw [e1]; exact hz), fun q h1 h2 => by rw [e1, hk q (Nat.lt_of_lt_of_le h1 hS.1) h2]; exact hS.2.1 q h1 h2, fun q hq => by
      rcases List.mem_append.mp hq with h | h
      · exact hS.2.2 q h
      · exact hL q h⟩ hl T' rfl X'
  refine ⟨t2, hst t2 ?_, b1⟩
  have he : ((r.map (gtr ad)).toList ++ st.map (gtr ad)) = (r.toList ++ st).map (gtr ad) := by cases r <;> rfl
  show Steps p.tables e below (T'.setTop (F0 m (pc + 3) ls ((r.map (gtr ad)).toList ++ st.map (gtr ad)))) t2
  rw [he]
  exact a1
theorem gW_blind {ad : Nat → Nat} {cA : Nat → ClassId} {D : va_G} {A : Nat → Prop} {vs : List Value} {τ : gS} : FrameBlind (va_Pc vs (gW ad cA D A τ)) := by
  intro a U g mk q
  obtain ⟨q0, qP, qK, qD, qX⟩ := q
  exact ⟨q0, qP, va_K.moved (u := U) (U := U.calling g mk a) (Vm.Alike.refl U.vm) qK, qD, qX.blind (U := U) (V := U.calling g mk a) rfl rfl⟩
theorem gW_at {ad : Nat → Nat} {cA : Nat → ClassId} {D : va_G} {A : Nat → Prop} {p : Program} {s U : State} {m : MethodId} {args : Array Value} {meth : Method} {c : Code} {H : Heap} {locs : List Loc}
    (hC : gC M ad cA D A p s m args meth c) (hP : va_P D gcl (gws ad cA σ) H) (hS : va_S A s.heap H locs) (hU : U.heap = H) (hW : s.WarmedH U.vm) : gW ad cA D A σ U :=
  ⟨by rw [hU]; exact hP, va_K.moved hW.alike hC.2.2.2.2.2.2.2.1, hC.2.2.2.2.2.2.2.2.1, hC.2.2.2.2.2.2.2.2.2.to (locs := locs) hW (by rw [hU]; exact hS)⟩
theorem gCallB {ad : Nat → Nat} {cA : Nat → ClassId} {D : va_G} {A : Nat → Prop} {p : Program} {s : State} {m : MethodId} {args : Array Value} {meth : Method} {c : Code} {M2 : gM} {n d2 idx : Nat}
    (hC : gC M ad cA D A p s m args meth c) (hB : gLB M2 n) (hl : (Cond.methodLink M.1.cls idx M2.1).before args s = true) (hm : M2.2.2.1 ≤ 45) (hdd : d2 < d) :
    CallB (gR d) s args M.1.cls idx M2.1 M2.2.1 M2.2.2.1 M2.2.2.2 (Cond.code M2.1 M2.2.1 M2.2.2.1 M2.2.2.2 :: gtb) (gR d2) 0 0 n :=
  callB_of n hC.2.2.2.2.2.2.1 (gt_good hB.1) rfl rfl rfl (hC.2.2.2.2.2.2.1 _ hB.2.1) hl hB.2.2 ⟨hdd, by show 8 + (M2.2.2.1 + 11) + 64 * d2 ≤ 64 * d; omega⟩
theorem gsum (ad : Nat → Nat) : ∀ st : List Value, ((st.map (gtr ad)).map fun v => v.category).sum = (st.map fun v => v.category).sum
  | [] => rfl
  | v :: r => by simp only [List.map_cons, List.sum_cons, gtr_cat, gsum ad r]
theorem g_callV {M2 : gM} {idx n d2 b ci : Nat} {vs stk : List Value} (hk : gLV M.1.cls idx M2 n) (hb : gcls b = some ci) (hci : (gcl[ci]?).map (fun q => q.1) = some M2.1.cls) (hn : vs.length = n) (hm : M2.2.2.1 ≤ 45) (hdd : d2 < d) (hr : (st.map fun v => v.category).sum ≤ 8) (hstk : stk = vs.reverse ++ .ref b :: st) (hd : decode M.2.1 pc = .ok (.invokevirtual idx, 3))
    (k : Ct d2 M2 (.ref b :: vs) σ (fun r τ => G M d (pc + 3) L (r.toList ++ st) τ Q)) : G M d pc L stk σ Q := by
  subst hstk
  intro ad cA D A p l e s m args below meth c H locs ls hC hP hS hl
  obtain ⟨hB, h1, h2, h3⟩ := hk
  obtain ⟨fs, hfs⟩ := gcls_spec hb
  obtain ⟨q, hq1, hq2⟩ : ∃ q, gcl[ci]? = some q ∧ q.1 = M2.1.cls := by
    cases hq : gcl[ci]? with
    | none => rw [hq] at hci; cases hci
    | some q => rw [hq] at hci; exact ⟨q, rfl, Option.some.inj hci⟩
  have hrec := va_recv hC.2.2.2.2.2.2.2.1 hP hq1 (gws_get (ad := ad) (cA := cA) σ hfs)
  rw [hq2] at hrec
  refine g_cont (st := st) hC hS hl (a := ((Value.ref (ad b)) :: vs.map (gtr ad)).toArray) (va_runV (As := vs.map (gtr ad)) (rest := st.map (gtr ad)) (b := ad b) ⟨hC.1, hC.2.1, hC.2.2.1, hC.2.2.2.2.2.1, hC.2.2.2.2.2.2.1⟩ (k ad cA D A l) ⟨gCallB hC hB (hC.2.2.2.2.2.2.1 _ h1) hm hdd, hC.2.2.2.2.2.2.1 _ h2, hC.2.2.2.2.2.2.1 _ h3⟩ ⟨gW_blind, hrec, fun U hU hW => ⟨rfl, gW_at hC hP hS hU hW⟩⟩ rfl (by rw [List.length_map]; exact hn) hl.1 ?_ (lv_room (by rw [gsum]; exact hr)) hd ⟨Nat.zero_le _, Nat.zero_le _⟩)
  show (vs.reverse ++ .ref b :: st).map (gtr ad) = _
  rw [List.map_append, List.map_reverse]
  rfl
theorem g_callS {M2 : gM} {idx n d2 : Nat} {vs stk : List Value} (hk : gLS M.1.cls idx M2 n) (hn : vs.length = n) (hm : M2.2.2.1 ≤ 45) (hdd : d2 < d) (hr : (st.map fun v => v.category).sum ≤ 8) (hstk : stk = vs.reverse ++ st) (hd : decode M.2.1 pc = .ok (.invokestatic idx, 3))
    (k : Ct d2 M2 vs σ (fun r τ => G M d (pc + 3) L (r.toList ++ st) τ Q)) : G M d pc L stk σ Q := by
  subst hstk
  intro ad cA D A p l e s m args below meth c H locs ls hC hP hS hl
  obtain ⟨hB, h1, h2⟩ := hk
  refine g_cont (st := st) hC hS hl (a := (vs.map (gtr ad)).toArray) (va_runS (As := vs.map (gtr ad)) (rest := st.map (gtr ad)) ⟨hC.1, hC.2.1, hC.2.2.1, hC.2.2.2.2.2.1, hC.2.2.2.2.2.2.1⟩ (k ad cA D A l) ⟨gCallB hC hB (hC.2.2.2.2.2.2.1 _ h1) hm hdd, hC.2.2.2.2.2.2.1 _ h2⟩ ⟨gW_blind, fun U hU hW => ⟨rfl, gW_at hC hP hS hU hW⟩⟩ rfl (by rw [List.length_map]; exact hn) hl.1 ?_ (lv_room (by rw [gsum]; exact hr)) hd ⟨Nat.zero_le _, Nat.zero_le _⟩)
  show (vs.reverse ++ st).map (gtr ad) = _
  rw [List.map_append, List.map_reverse]
theorem g_callSN {M2 : gM} {idx n d2 : Nat} {vs stk : List Value} (hk : gLSN M.1.cls idx M2 n) (hn : vs.length = n) (hm : M2.2.2.1 ≤ 45) (hdd : d2 < d) (hr : (st.map fun v => v.category).sum ≤ 8) (hstk : stk = vs.reverse ++ st) (hd : decode M.2.1 pc = .ok (.invokestatic idx, 3))
    (k : Ct d2 M2 vs σ (fun r τ => G M d (pc + 3) L (r.toList ++ st) τ Q)) : G M d pc L stk σ Q := by
  subst hstk
  intro ad cA D A p l e s m args below meth c H locs ls hC hP hS hl
  obtain ⟨hB, ⟨host, h1⟩, h2⟩ := hk
  refine g_cont (st := st) hC hS hl (a := (vs.map (gtr ad)).toArray) (va_runSN (As := vs.map (gtr ad)) (rest := st.map (gtr ad)) ⟨hC.1, hC.2.1, hC.2.2.1, hC.2.2.2.2.2.1, hC.2.2.2.2.2.2.1⟩ (k ad cA D A l) ⟨va_cnB n hC.2.2.2.2.2.2.1 (gt_good hB.1) rfl rfl rfl (hC.2.2.2.2.2.2.2.2.2.1 _ h1) (hC.2.2.2.2.2.2.1 _ hB.2.1) hB.2.2 ⟨hdd, by show 8 + (M2.2.2.1 + 11) + 64 * d2 ≤ 64 * d; omega⟩, hC.2.2.2.2.2.2.1 _ h2, trivial⟩ ⟨gW_blind, fun U hU hW => ⟨rfl, gW_at hC hP hS hU hW⟩⟩ rfl (by rw [List.length_map]; exact hn) hl.1 ?_ (lv_room (by rw [gsum]; exact hr)) hd ⟨Nat.zero_le _, Nat.zero_le _⟩)
  show (vs.reverse ++ st).map (gtr ad) = _
  rw [List.map_append, List.map_reverse]
/-- a method's entry -/
theorem gent_args (ad : Nat → Nat) : ∀ (vs : List Value) (o i : Nat) (v : Value), (gent vs)[i]? = some (some v) → (o + i, gtr ad v) ∈ lv_args o (vs.map (gtr ad))
  | [], o, i, v, h => by simp [gent] at h
  | a :: r, o, i, v, h => by
    unfold gent at h
    by_cases hc : a.category = 2
    · rw [if_pos hc] at h
      match i, h with
      | 0, h =>
        have : a = v := by simpa using h
        subst this
        show _ ∈ lv_args o (gtr ad a :: r.map (gtr ad))
        simp [lv_args]
      | 1, h => simp at h
      | i + 2, h =>
        have h2 := gent_args ad r (o + 2) i v (by simpa using h)
        show _ ∈ lv_args o (gtr ad a :: r.map (gtr ad))
        simp only [lv_args, gtr_cat, hc]
        rw [show o + (i + 2) = o + 2 + i by omega]
        exact List.mem_cons_of_mem _ h2
    · have hc1 : a.category = 1 := by rcases lv_cat a with q | q; exact q; exact absurd q hc
      rw [if_neg hc] at h
      match i, h with
      | 0, h =>
        have : a = v := by simpa using h
        subst this
        show _ ∈ lv_args o (gtr ad a :: r.map (gtr ad))
        simp [lv_args]
      | i + 1, h =>
        have h2 := gent_args ad r (o + 1) i v (by simpa using h)
        show _ ∈ lv_args o (gtr ad a :: r.map (gtr ad))
        simp only [lv_args, gtr_cat, hc1]
        rw [show o + (i + 1) = o + 1 + i by omega]
        exact List.mem_cons_of_mem _ h2
theorem glen (ad : Nat → Nat) : ∀ vs : List Value, (lg_sl (vs.map (gtr ad))).length = (gent vs).length
  | [] => rfl
  | v :: r => by
    have h := glen ad r
    by_cases hc : v.category = 2
    · simp [gent, lg_sl, gtr_cat, hc] at h ⊢
      exact h
    · simp [gent, lg_sl, gtr_cat, hc] at h ⊢
      exact h
theorem Ct.of {vs : List Value} (hy : plainName M.1.cls = true) (hn : (gent vs).length ≤ M.2.2.1) (hL : gent vs ++ List.replicate (M.2.2.1 - (gent vs).length) none = L) (k : G M d 0 L [] σ Q) : Ct d M vs σ Q := by
  subst hL
  intro ad cA D A l
  refine Met.ofW (cc := M.2.1) (maxL := M.2.2.1) (ret := M.2.2.2) hy rfl ?_
  intro p e s m args below meth c s₁ B hml hv
  obtain ⟨rfl, hP, hK, hD, hX⟩ := hv
  have hC : gC M ad cA D A p s m (vs.map (gtr ad)).toArray meth c := ⟨B.exec, B.bytes, hml, B.returns, B.notSynchronized, findClass_of_methodNamed B.named, fun w hw => atoms_spec (ws := Cond.code M.1 M.2.1 M.2.2.1 M.2.2.2 :: gtb) B.pre w (List.mem_cons_of_mem _ hw), hK, hD, hX⟩
  have hl := lv_entry (vs.map (gtr ad)) (n := M.2.2.1) (by rw [glen]; exact hn)
  rw [lg_entry_eq]
  refine k ad cA D A p l e s m _ below meth c s.heap [] _ hC hP va_S.rf ⟨hl.1, hl.2.1, fun i v hi => ?_⟩
  by_cases hlt : i < (gent vs).length
  · rw [List.getElem?_append_left hlt] at hi
    have := gent_args ad vs 0 i v hi
    rw [Nat.zero_add] at this
    exact hl.2.2 _ this
  · rw [List.getElem?_append_right (by omega)] at hi
    have := List.mem_of_getElem? hi
    rw [List.mem_replicate] at this
    cases this.2
end GRows2
