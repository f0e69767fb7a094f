/-! constructors: the judgement N over a world that grows -/
def gN (U : State) : Prop := (∀ w ∈ gnest, va_Nw w U) ∧ va_AO "TwoAgree$Shelf" U
theorem gN.to {s U : State} (hW : s.WarmedH U.vm) (h : gN s) : gN U := by
  refine ⟨fun w hw => ?_, va_AO.moved hW.alike h.2⟩
  have h0 := h.1 w hw
  obtain ⟨a, i, x, h', rfl⟩ := gX_nest hw
  exact h0.warmM hW
theorem gN.blind {U V : State} (hv : V.vm = U.vm) (h : gN U) : gN V := by
  refine ⟨fun w hw => ?_, va_AO.moved (by rw [hv]; exact Vm.Alike.refl U.vm) h.2⟩
  have h0 := h.1 w hw
  obtain ⟨a, i, x, h', rfl⟩ := gX_nest hw
  exact h0.same rfl hv.symm
abbrev nT : Type := List (ClassId × FieldType)
def nQ (D : va_G) (A : Nat → Prop) (Q : va_W → nT → Prop) : Array Value → State → Outcome → State → Prop :=
  va_Qv (fun _ : Unit => True) (fun _ U => ∃ (ws : va_W) (tys : nT), Q ws tys ∧ va_P D gcl ws U.heap ∧ va_K D gcl tys U ∧ va_D A ws) A
def NC (M : gM) (A : Nat → Prop) (p : Program) (s : State) (m : MethodId) (args : Array Value) (meth : Method) (c : Code) : Prop :=
  p.tables.exec = Jvm.exec ∧ c.code = M.2.1 ∧ c.maxLocals = M.2.2.1 ∧ meth.sig.returnType = M.2.2.2 ∧ meth.locks = false ∧ s.vm.findClass M.1.cls = some m.cls ∧ (∀ w ∈ gtb, w.before args s = true) ∧ (∀ q, s.heap.size ≤ q → A q) ∧ meth.name = "<init>" ∧ gN s
def N (D : va_G) (M : gM) (Rm : Room) (mc ms pc : Nat) (L : List (Option Value)) (st : List Value) (ws : va_W) (tys : nT) (cells slots : Nat) (Q : va_W → nT → Prop) : Prop :=
  ∀ (A : Nat → Prop) (p : Program) (l : Launch) (e : Env) (s : State) (m : MethodId) (args : Array Value) (below : List Frame) (meth : Method) (c : Code) (H : Heap) (locs : List Loc) (ls : Array Slot),
    NC M A p s m args meth c → va_K D gcl tys s → va_P D gcl ws H → va_D A ws → va_S A s.heap H locs → gLs id M.2.2.1 L ls →
    W p l e Rm s m args below meth c H locs cells slots (MQ below (nQ D A Q) args s mc ms A) (F0 m pc ls st)
def nrm (fr mc ms : Nat) : Room := { frames := fr, cells := mc, slots := ms, locals := 64 * fr }
def NCt (M : gM) (ci fr mc ms : Nat) (dfl : List Value) (Q : Nat → va_W → nT → Prop) : Prop :=
  ∀ (l : Launch) (D : va_G) (h0 sz : Nat), Met l M.1 (Cond.code M.1 M.2.1 M.2.2.1 M.2.2.2 :: gtb) (nrm fr mc ms)
    (va_Pc [.ref h0] (fun U => U.heap.size = sz ∧ va_P D gcl [(h0, .inr (ci, dfl))] U.heap ∧ va_K D gcl [] U ∧ va_D (fun _ => True) [(h0, .inr (ci, dfl))] ∧ gN U))
    (nQ D (va_A [(h0, .inr (ci, dfl))] sz) (Q h0)) mc ms (va_A [(h0, .inr (ci, dfl))] sz)
section NRows
variable {D : va_G} {M : gM} {Rm : Room} {mc ms pc : Nat} {L L2 : List (Option Value)} {st : List Value} {ws : va_W} {tys : nT} {cells slots : Nat} {Q : va_W → nT → Prop}
theorem n_const {i : Jvm.ClassFile.Instr} {len : Nat} {v : Int32} (hd : decode M.2.1 pc = .ok (i, len)) (hi : (∃ n, i = .iconst n ∧ Int32.ofInt n = v ∧ len = 1) ∨ (∃ n, i = .bipush n ∧ (Int8.ofInt n).toInt32 = v ∧ len = 2) ∨ (∃ n, i = .sipush n ∧ (Int16.ofInt n).toInt32 = v ∧ len = 3)) (k : N D M Rm mc ms (pc + len) L (.int v :: st) ws tys cells slots Q) : N D M Rm mc ms pc L st ws tys cells slots Q := by
  intro A p l e s m args below meth c H locs ls hC hK hP hD hS hl
  rcases hi with ⟨n, rfl, h1, rfl⟩ | ⟨n, rfl, h1, rfl⟩ | ⟨n, rfl, h1, rfl⟩
  · exact lv_iconst hC.1 hC.2.1 hd h1 (k A p l e s m args below meth c H locs ls hC hK hP hD hS hl)
  · exact lv_bipush hC.1 hC.2.1 hd h1 (k A p l e s m args below meth c H locs ls hC hK hP hD hS hl)
  · exact lv_sipush hC.1 hC.2.1 hd h1 (k A p l e s m args below meth c H locs ls hC hK hP hD hS hl)
theorem n_aload_n {j : Fin 4} {x : Nat} (hd : decode M.2.1 pc = .ok (.aload_n j, 1)) (hx : L[(j : Nat)]? = some (some (.ref x))) (k : N D M Rm mc ms (pc + 1) L (.ref x :: st) ws tys cells slots Q) : N D M Rm mc ms pc L st ws tys cells slots Q := by
  intro A p l e s m args below meth c H locs ls hC hK hP hD hS hl
  exact lv_aload_n hC.1 hC.2.1 hd rfl (hl.2.2 _ _ hx) (k A p l e s m args below meth c H locs ls hC hK hP hD hS hl)
theorem n_iload_n {j : Fin 4} {x : Int32} (hd : decode M.2.1 pc = .ok (.iload_n j, 1)) (hx : L[(j : Nat)]? = some (some (.int x))) (k : N D M Rm mc ms (pc + 1) L (.int x :: st) ws tys cells slots Q) : N D M Rm mc ms pc L st ws tys cells slots Q := by
  intro A p l e s m args below meth c H locs ls hC hK hP hD hS hl
  exact lv_iload_n hC.1 hC.2.1 hd rfl (hl.2.2 _ _ hx) (k A p l e s m args below meth c H locs ls hC hK hP hD hS hl)
theorem n_istore_n {j : Fin 4} {x : Int32} (hd : decode M.2.1 pc = .ok (.istore_n j, 1)) (hn : (j : Nat) < M.2.2.1) (hL : gput1 (j : Nat) (.int x) L = L2) (k : N D M Rm mc ms (pc + 1) L2 st ws tys cells slots Q) : N D M Rm mc ms pc L (.int x :: st) ws tys cells slots Q := by
  intro A p l e s m args below meth c H locs ls hC hK hP hD hS hl
  exact lv_istore_n hC.1 hC.2.1 hd rfl (gLs_has hl) hn rfl (fun ls2 hl2 => k A p l e s m args below meth c H locs ls2 hC hK hP hD hS (hL ▸ gLs_put1 (v := .int x) hl hl2))
theorem n_iinc {i : Nat} {n : Int} {x v : Int32} (hd : decode M.2.1 pc = .ok (.iinc i n, 3)) (hx : L[i]? = some (some (.int x))) (hv : x + Int32.ofInt n = v) (hn : i < M.2.2.1) (hL : gput1 i (.int v) L = L2) (k : N D M Rm mc ms (pc + 3) L2 st ws tys cells slots Q) : N D M Rm mc ms pc L st ws tys cells slots Q := by
  intro A p l e s m args below meth c H locs ls hC hK hP hD hS hl
  obtain ⟨j, hj⟩ := List.getElem?_of_mem (gPr_mem (ad := id) hx)
  exact lv_iinc hC.1 hC.2.1 hd (gLs_has hl) (k := j) hj hv hn rfl (fun ls2 hl2 => k A p l e s m args below meth c H locs ls2 hC hK hP hD hS (hL ▸ gLs_put1 (v := .int v) hl hl2))
theorem n_goto {off : Int} {tgt : Nat} (hd : decode M.2.1 pc = .ok (.goto off, 3)) (ht : (pc : Int) + off = (tgt : Int)) (k : N D M Rm mc ms tgt L st ws tys cells slots Q) : N D M Rm mc ms pc L st ws tys cells slots Q := by
  intro A p l e s m args below meth c H locs ls hC hK hP hD hS hl
  exact lv_goto hC.1 hC.2.1 hd ht (k A p l e s m args below meth c H locs ls hC hK hP hD hS hl)
theorem n_icmp_ge {x y : Int32} {off : Int} {tgt : Nat} (hd : decode M.2.1 pc = .ok (.if_icmp .ge off, 3)) (ht : (pc : Int) + off = (tgt : Int)) (kt : y ≤ x → N D M Rm mc ms tgt L st ws tys cells slots Q) (kf : ¬ (y ≤ x) → N D M Rm mc ms (pc + 3) L st ws tys cells slots Q) : N D M Rm mc ms pc L (.int y :: .int x :: st) ws tys cells slots Q := by
  intro A p l e s m args below meth c H locs ls hC hK hP hD hS hl
  exact lv_icmp_ge hC.1 hC.2.1 hd ht (fun h => kt h A p l e s m args below meth c H locs ls hC hK hP hD hS hl) (fun h => kf h A p l e s m args below meth c H locs ls hC hK hP hD hS hl)
theorem n_dup {v : Value} (hd : decode M.2.1 pc = .ok (.dup, 1)) (hv : v.category = 1) (k : N D M Rm mc ms (pc + 1) L (v :: v :: st) ws tys cells slots Q) : N D M Rm mc ms pc L (v :: st) ws tys cells slots Q := by
  intro A p l e s m args below meth c H locs ls hC hK hP hD hS hl
  exact lv_dup hC.1 hC.2.1 hd hv (k A p l e s m args below meth c H locs ls hC hK hP hD hS hl)
theorem n_objInit {idx a : Nat} (wl : Cond.methodLink M.1.cls idx Lib.objectInit ∈ gtb) (wi : Cond.instanceMethod Lib.objectInit ∈ gtb) (wc : Cond.code Lib.objectInit ⟨#[0xb1]⟩ 1 none ∈ gtb) (hd : decode M.2.1 pc = .ok (.invokespecial idx, 3)) (hf : 1 ≤ Rm.frames) (hr : (st.map fun v => v.category).sum + 12 ≤ Rm.locals) (k : N D M Rm mc ms (pc + 3) L st ws tys cells slots Q) : N D M Rm mc ms pc L (.ref a :: st) ws tys cells slots Q := by
  intro A p l e s m args below meth c H locs ls hC hK hP hD hS hl
  refine W.objInit hC.1 hC.2.1 hC.2.2.2.2.2.1 (hC.2.2.2.2.2.2.1 _ wl) (hC.2.2.2.2.2.2.1 _ wi) (hC.2.2.2.2.2.2.1 _ wc) rfl (by show ls.size = _; rw [hl.1, hC.2.2.1]) rfl hd hf (by show 2 * 0 + _ + 12 ≤ _; rw [Nat.mul_zero, Nat.zero_add]; exact hr) ?_
  exact k A p l e s m args below meth c H locs ls hC hK hP hD hS hl
theorem n_newai {n : Int32} {N' : Nat} (wa : Cond.arrayClass .int ∈ gtb) (hd : decode M.2.1 pc = .ok (.newarray .int, 2)) (hn : ¬ n < 0) (hN : n.toNatClampNeg = N') (hb : N' ≤ 2000) (hc : cells + 1 ≤ Rm.cells) (hs : slots + N' ≤ Rm.slots)
    (k : ∀ (q : Nat) (cA : ClassId), N D M Rm mc ms (pc + 2) L (.ref q :: st) (ws ++ [(q, .inl (cA, N', .inl (fun _ => 0)))]) (tys ++ [(cA, .int)]) (cells + 1) (slots + N') Q) : N D M Rm mc ms pc L (.int n :: st) ws tys cells slots Q := by
  intro A p l e s m args below meth c H locs ls hC hK hP hD hS hl
  refine va_newa (atype := .int) (a0 := (N', .inl (fun _ => 0))) hC.1 hC.2.1 (hC.2.2.2.2.2.2.1 _ wa) rfl hK hP hD hS hC.2.2.2.2.2.2.2.1 (fun cA => rfl) hn hN (by show N' * 4 ≤ 536870912; omega) hc hs hd (fun q cA H1 hK1 hP1 hD1 hS1 => ?_)
  exact k q cA A p l e s m args below meth c H1 locs ls hC hK1 hP1 hD1 hS1 hl
theorem n_newal {n : Int32} {N' : Nat} (wa : Cond.arrayClass .long ∈ gtb) (hd : decode M.2.1 pc = .ok (.newarray .long, 2)) (hn : ¬ n < 0) (hN : n.toNatClampNeg = N') (hb : N' ≤ 2000) (hc : cells + 1 ≤ Rm.cells) (hs : slots + N' ≤ Rm.slots)
    (k : ∀ (q : Nat) (cA : ClassId), N D M Rm mc ms (pc + 2) L (.ref q :: st) (ws ++ [(q, .inl (cA, N', .inr (.inl (fun _ => 0))))]) (tys ++ [(cA, .long)]) (cells + 1) (slots + N') Q) : N D M Rm mc ms pc L (.int n :: st) ws tys cells slots Q := by
  intro A p l e s m args below meth c H locs ls hC hK hP hD hS hl
  refine va_newa (atype := .long) (a0 := (N', .inr (.inl (fun _ => 0)))) hC.1 hC.2.1 (hC.2.2.2.2.2.2.1 _ wa) rfl hK hP hD hS hC.2.2.2.2.2.2.2.1 (fun cA => rfl) hn hN (by show N' * 8 ≤ 536870912; omega) hc hs hd (fun q cA H1 hK1 hP1 hD1 hS1 => ?_)
  exact k q cA A p l e s m args below meth c H1 locs ls hC hK1 hP1 hD1 hS1 hl
theorem n_newq {idx : Nat} {n : Int32} {N' : Nat} (wcl : Cond.classLink M.1.cls idx "TwoAgree$Shelf" ∈ gtb) (hd : decode M.2.1 pc = .ok (.anewarray idx, 3)) (hn : ¬ n < 0) (hN : n.toNatClampNeg = N') (hb : N' ≤ 2000) (hc : cells + 1 ≤ Rm.cells) (hs : slots + N' ≤ Rm.slots)
    (k : ∀ (q : Nat) (cA : ClassId), N D M Rm mc ms (pc + 3) L (.ref q :: st) (ws ++ [(q, .inl (cA, N', .inr (.inr (.inr (.inr (fun _ => none))))))]) (tys ++ [(cA, .object "TwoAgree$Shelf")]) (cells + 1) (slots + N') Q) : N D M Rm mc ms pc L (.int n :: st) ws tys cells slots Q := by
  intro A p l e s m args below meth c H locs ls hC hK hP hD hS hl
  refine va_newq (C := "TwoAgree$Shelf") hC.1 hC.2.1 hC.2.2.2.2.2.1 (hC.2.2.2.2.2.2.1 _ wcl) hC.2.2.2.2.2.2.2.2.2.2 hK hP hD hS hC.2.2.2.2.2.2.2.1 hn hN (by omega) hc hs hd (fun q cA H1 hK1 hP1 hD1 hS1 => ?_)
  exact k q cA A p l e s m args below meth c H1 locs ls hC hK1 hP1 hD1 hS1 hl
theorem n_put {idx ci k h0 : Nat} {ty : FieldType} {fin : Bool} {fs : List Value} {v : Value} (hf : gFL M.1.cls idx ci k ty fin) (hdl : (gcl[ci]?).map (fun q => (q.2.1 k).1) = some M.1.cls) (he : ws[0]? = some (h0, .inr (ci, fs))) (hn : narrow ty v = v) (hfit : fits ty v = true) (hl0 : k < fs.length) (hd : decode M.2.1 pc = .ok (.putfield idx, 3))
    (kk : N D M Rm mc ms (pc + 3) L st (ws.set 0 (h0, .inr (ci, fs.set k v))) tys cells slots Q) : N D M Rm mc ms pc L (v :: .ref h0 :: st) ws tys cells slots Q := by
  intro A p l e s m args below meth c H locs ls hC hK hP hD hS hl
  obtain ⟨C, T, N, ty0, q1, q2, q3, q4, q5, q6, q7, q8⟩ := hf
  have hdl2 : (T k).1 = M.1.cls := by
    rw [q1] at hdl
    exact Option.some.inj hdl
  have hv : gtr id v = v := by cases v <;> rfl
  show W p l e Rm s m args below meth c H locs cells slots _ (F0 m pc ls (v :: .ref h0 :: st))
  cases fin with
  | true =>
    exact va_putF (D := D) (ci := ci) (C := C) (T := T) (N := N) hC.1 hC.2.1 hC.2.2.2.2.2.2.1 q2 ty0 q3 q4 hC.2.2.2.2.2.1 hK hP hD hS 0 he q1 k q5 (hC.2.2.2.2.2.2.1 _ q6) (fun _ h9 => h9) q8 hC.2.2.2.2.2.2.2.2.1 hdl2 q7 hn hfit hl0 hd (fun H1 locs1 hP1 hD1 hS1 => kk A p l e s m args below meth c H1 locs1 ls hC hK hP1 hD1 hS1 hl)
  | false =>
    exact va_put (D := D) (ci := ci) (C := C) (T := T) (N := N) hC.1 hC.2.1 hC.2.2.2.2.2.2.1 q2 ty0 q3 q4 hC.2.2.2.2.2.1 hK hP hD hS 0 he q1 k q5 (hC.2.2.2.2.2.2.1 _ q6) (fun _ h9 => h9) q8 q7 hn hfit hl0 hd (fun H1 locs1 hP1 hD1 hS1 => kk A p l e s m args below meth c H1 locs1 ls hC hK hP1 hD1 hS1 hl)
theorem n_getr {idx ci k h0 j : Nat} {ty : FieldType} {fin : Bool} {fs : List Value} (hf : gFL M.1.cls idx ci k ty fin) (he : ws[0]? = some (h0, .inr (ci, fs))) (hv : fs[k]? = some (.ref j)) (hd : decode M.2.1 pc = .ok (.getfield idx, 3)) (kk : N D M Rm mc ms (pc + 3) L (.ref j :: st) ws tys cells slots Q) : N D M Rm mc ms pc L (.ref h0 :: st) ws tys cells slots Q := by
  intro A p l e s m args below meth c H locs ls hC hK hP hD hS hl
  obtain ⟨C, T, N, ty0, q1, q2, q3, q4, q5, q6, q7, q8⟩ := hf
  exact va_get (D := D) (ci := ci) (C := C) (T := T) (N := N) hC.1 hC.2.1 hC.2.2.2.2.2.2.1 q2 hC.2.2.2.2.2.1 hK hP 0 he q1 k q5 (hC.2.2.2.2.2.2.1 _ q6) (fun _ h9 => h9) hv hd (kk A p l e s m args below meth c H locs ls hC hK hP hD hS hl)
theorem n_alen (q0 t0 : Nat) {a : Nat} {cA : ClassId} {x : vp_A} {ty : FieldType} {v : Int32} (ha : ws[q0]? = some (a, .inl (cA, x))) (ht : tys[t0]? = some (cA, ty)) (hv : Int32.ofNat x.1 = v) (hd : decode M.2.1 pc = .ok (.arraylength, 1)) (kk : N D M Rm mc ms (pc + 1) L (.int v :: st) ws tys cells slots Q) : N D M Rm mc ms pc L (.ref a :: st) ws tys cells slots Q := by
  intro A p l e s m args below meth c H locs ls hC hK hP hD hS hl
  exact va_alen hC.1 hC.2.1 hK hP q0 t0 ha ht hv hd (kk A p l e s m args below meth c H locs ls hC hK hP hD hS hl)
theorem n_iast (q0 t0 : Nat) {a n : Nat} {cA : ClassId} {f : Nat → Int32} {i x : Int32} (ha : ws[q0]? = some (a, .inl (cA, n, .inl f))) (ht : tys[t0]? = some (cA, .int)) (hi : vp_in i n) (hd : decode M.2.1 pc = .ok (.iastore, 1)) (kk : N D M Rm mc ms (pc + 1) L st (ws.set q0 (a, .inl (cA, n, .inl (upd f i.toNatClampNeg x)))) tys cells slots Q) : N D M Rm mc ms pc L (.int x :: .int i :: .ref a :: st) ws tys cells slots Q := by
  intro A p l e s m args below meth c H locs ls hC hK hP hD hS hl
  exact va_iast hC.1 hC.2.1 hK hP hD hS q0 t0 ha ht hi hd (fun H1 locs1 hP1 hD1 hS1 => kk A p l e s m args below meth c H1 locs1 ls hC hK hP1 hD1 hS1 hl)
theorem n_astq (q0 t0 qk ci : Nat) {a n v : Nat} {cA : ClassId} {r : vw_C} {vs : List Value} {f : Nat → Option Nat} {i : Int32} (ha : ws[q0]? = some (a, .inl (cA, n, .inr (.inr (.inr (.inr f)))))) (ht : tys[t0]? = some (cA, .object r.1)) (hv : ws[qk]? = some (v, .inr (ci, vs))) (hc : gcl[ci]? = some r) (hi : vp_in i n) (hd : decode M.2.1 pc = .ok (.aastore, 1)) (kk : N D M Rm mc ms (pc + 1) L st (ws.set q0 (a, .inl (cA, n, .inr (.inr (.inr (.inr (va_up f i.toNatClampNeg (some v)))))))) tys cells slots Q) : N D M Rm mc ms pc L (.ref v :: .int i :: .ref a :: st) ws tys cells slots Q := by
  intro A p l e s m args below meth c H locs ls hC hK hP hD hS hl
  exact va_astq hC.1 hC.2.1 hK hP hD hS q0 t0 qk ci ha ht hv hc hi hd (fun H1 locs1 hP1 hD1 hS1 => kk A p l e s m args below meth c H1 locs1 ls hC hK hP1 hD1 hS1 hl)
theorem n_new {C : String} {T : u_T} {Nf ci idx : Nat} {ty : Nat → FieldType} {fs : List Value} (hin : ∀ w ∈ u_ws C T Nf, w ∈ gtb) (hty : ∀ k, k < Nf → parseFieldDescriptor (T k).2.2.1 = some (ty k)) (wcl : Cond.classLink M.1.cls idx C ∈ gtb) (win : Cond.instantiable C Nf ∈ gtb) (wini : Cond.initialized C ∈ gtb) (hcl : gcl[ci]? = some (C, T, Nf)) (hfs : ∀ j, j < Nf → defaultValue (ty j) = vp_V fs j) (hc : cells + 1 ≤ Rm.cells) (hs : slots + Nf ≤ Rm.slots) (hd : decode M.2.1 pc = .ok (.new idx, 3))
    (k : ∀ q : Nat, N D M Rm mc ms (pc + 3) L (.ref q :: st) (ws ++ [(q, .inr (ci, fs))]) tys (cells + 1) (slots + Nf) Q) : N D M Rm mc ms pc L st ws tys cells slots Q := by
  intro A p l e s m args below meth c H locs ls hC hK hP hD hS hl
  exact va_new hC.1 hC.2.1 hC.2.2.2.2.2.2.1 hin ty hty hC.2.2.2.2.2.1 (hC.2.2.2.2.2.2.1 _ wcl) (hC.2.2.2.2.2.2.1 _ win) (hC.2.2.2.2.2.2.1 _ wini) hK hP hD hS hC.2.2.2.2.2.2.2.1 hcl hfs hc hs hd (fun q H1 hP1 hD1 hS1 => k q A p l e s m args below meth c H1 locs ls hC hK hP1 hD1 hS1 hl)
theorem va_nd_range : ∀ n : Nat, va_nd (List.range n) = true := by
  intro n
  have h := List.nodup_range (n := n)
  generalize List.range n = l at h
  induction l with
  | nil => rfl
  | cons a r ih =>
    have h1 := List.nodup_cons.mp h
    show (decide (a ∉ r) && va_nd r) = true
    rw [ih h1.2]
    simp [h1.1]
theorem n_join {A0 : Nat → Prop} {wr w1 : va_W} {x : Nat × va_E} {H H1 : Heap} (hP : va_P D gcl (wr ++ [x]) H) (hD : va_D A0 (wr ++ [x])) (hk : ∀ q : Nat, q < H.size → ¬ va_A [x] H.size q → H1[q]? = H[q]?) (hF : ∀ q, va_A [x] H.size q → A0 q) (hP1 : va_P D gcl w1 H1) (hD1 : va_D (va_A [x] H.size) w1) : va_P D gcl (wr ++ w1) H1 ∧ va_D A0 (wr ++ w1) := by
  refine va_join (wc := [x]) hP hD [wr.length] (List.range wr.length) ?_ ?_ (va_nd_range _) ?_ hk hF hP1 hD1
  · simp
  · apply List.ext_getElem?
    intro i
    by_cases hi : i < wr.length
    · rw [List.getElem?_map, List.getElem?_range hi, List.getElem?_map]
      show some ((wr ++ [x])[i]?) = _
      rw [List.getElem?_append_left hi, List.getElem?_eq_getElem hi]
      rfl
    · rw [List.getElem?_eq_none (by simp; omega), List.getElem?_eq_none (by simp; omega)]
  · intro i hi
    have := List.mem_range.mp hi
    simp only [List.mem_cons, List.not_mem_nil, or_false]
    omega
theorem n_init {M2 : gM} {idx ci2 fr2 mc2 ms2 q : Nat} {dfl : List Value} {Q2 : Nat → va_W → nT → Prop} (hc : NCt M2 ci2 fr2 mc2 ms2 dfl Q2) (hw : Cond.code M2.1 M2.2.1 M2.2.2.1 M2.2.2.2 ∈ gtb) (hret : M2.2.2.2 = none) (hnest : ∃ host, Cond.methodLinkNest M.1.cls idx M2.1 host ∈ gnest) (wini : Cond.initialized M2.1.cls ∈ gtb) (wim : Cond.instanceMethod M2.1 ∈ gtb) (hnm : M2.1.name = "<init>") (hcls : M2.1.cls ≠ "java/lang/invoke/MethodHandle" ∧ M2.1.cls ≠ "java/lang/invoke/VarHandle" ∧ (parseMethodDescriptor M2.1.desc).map (fun d => d.parameters.length) = some 0)
    (hm : M2.2.2.1 ≤ 45) (hfr : fr2 + 1 ≤ Rm.frames) (hlo : 64 * (fr2 + 1) ≤ Rm.locals) (hcells : cells + mc2 ≤ Rm.cells) (hslots : slots + ms2 ≤ Rm.slots) (hr : (st.map fun v => v.category).sum ≤ 8) (hd : decode M.2.1 pc = .ok (.invokespecial idx, 3))
    (k : ∀ (w1 : va_W) (t1 : nT), Q2 q w1 t1 → N D M Rm mc ms (pc + 3) L st (ws ++ w1) (tys ++ t1) (cells + mc2) (slots + ms2) Q) : N D M Rm mc ms pc L (.ref q :: st) (ws ++ [(q, .inr (ci2, dfl))]) tys cells slots Q := by
  intro A p l e s m args below meth c H locs ls hC hK hP hD hS hl
  obtain ⟨host, hn⟩ := hnest
  have hPc := hP.sub (ws' := [(q, .inr (ci2, dfl))]) [ws.length] (by simp)
  have hDc := hD.sub (ws' := [(q, .inr (ci2, dfl))]) [ws.length] rfl (by simp)
  have hFc := va_free (wc := [(q, .inr (ci2, dfl))]) hD hS hC.2.2.2.2.2.2.2.1 [ws.length] (by simp)
  have hKc := hK.sub (tys' := []) [] rfl
  have hN := hC.2.2.2.2.2.2.2.2.2
  have hcw := va_cnB (R := Rm) (s := s) (args := args) (own := M.1.cls) (host := host) (index := idx) (y := M2.1) (bytes := M2.2.1) (maxL := M2.2.2.1) (ret := none) (mc := mc2) (ms := ms2) (ws := Cond.code M2.1 M2.2.1 M2.2.2.1 M2.2.2.2 :: gtb) (rm := nrm fr2 mc2 ms2) (ws' := gtb) 0 hC.2.2.2.2.2.2.1 (gt_good hw) (by rw [hret]) rfl rfl (hN.1 _ hn) (hC.2.2.2.2.2.2.1 _ wini) hcls ⟨hfr, by show 8 + (M2.2.2.1 + 11) + 64 * fr2 ≤ _; omega⟩
  refine va_callv (va_runIN (As := []) (rest := st) ⟨hC.1, hC.2.1, hC.2.2.1, hC.2.2.2.2.2.1, hC.2.2.2.2.2.2.1⟩ (hc l D q H.size) ⟨hcw, hnm, hC.2.2.2.2.2.2.1 _ wim⟩ ⟨fun a U g mk z => by obtain ⟨z0, z1, zP, zK, zD, zN⟩ := z; exact ⟨z0, z1, zP, va_K.moved (u := U) (U := U.calling g mk a) (Vm.Alike.refl U.vm) zK, zD, gN.blind (U := U) (V := U.calling g mk a) rfl zN⟩, fun U hU hW => ⟨rfl, by rw [hU], by rw [hU]; exact hPc, va_K.moved hW.alike hKc, hDc.weaken (fun _ _ _ _ => trivial), hN.to hW⟩⟩ rfl rfl hl.1 rfl (lv_room hr) hd ⟨hcells, hslots⟩) hS (fun q _ h => hFc q h) hFc (fun u t H1 locs1 ht hvm _ hB hz1 hk1 hS1 => ?_)
  obtain ⟨w1, t1, hQ, hP1, hK1, hD1⟩ := hB
  rw [ht] at hP1
  have hK1 := va_K.moved hvm.symm hK1
  obtain ⟨hPj, hDj⟩ := n_join hP hD hk1 hFc hP1 hD1
  exact k w1 t1 hQ A p l e s m args below meth c H1 locs1 ls hC (hK.app hK1) hPj hDj hS1 hl
theorem n_ret (hr : M.2.2.2 = none) (hc : cells ≤ mc) (hs : slots ≤ ms) (hmc : mc ≤ Rm.cells) (hms : ms ≤ Rm.slots) (hd : decode M.2.1 pc = .ok (.return_, 1)) (hq : Q ws tys) : N D M Rm mc ms pc L [] ws tys cells slots Q := by
  intro A p l e s m args below meth c H locs ls hC hK hP hD hS hl
  refine W.widen (k := mc) (n := ms) hc hs ?_
  exact W.vret hC.1 hC.2.1 (hC.2.2.2.1.trans hr) (fun t ht hW => ⟨⟨(), rfl, trivial, ws, tys, hq, by rw [ht]; exact hP, va_K.moved hW.alike hK, hD⟩, hS.F ht⟩) hS.2.2 hd hC.2.2.2.2.1
theorem NCt.of {ci fr : Nat} {dfl : List Value} {Q2 : Nat → va_W → nT → Prop} (hy : plainName M.1.cls = true) (hL : 1 ≤ M.2.2.1) (hnm : M.1.name = "<init>") (k : ∀ (D : va_G) (h0 : Nat), N D M (nrm fr mc ms) mc ms 0 (some (.ref h0) :: List.replicate (M.2.2.1 - 1) none) [] [(h0, .inr (ci, dfl))] [] 0 0 (Q2 h0)) : NCt M ci fr mc ms dfl Q2 := by
  intro l D h0 sz
  refine Met.ofW (cc := M.2.1) (maxL := M.2.2.1) (ret := M.2.2.2) hy rfl ?_
  intro p e s m args below meth c s₁ B hml hv
  obtain ⟨rfl, hsz, hP, hK, hD0, hN⟩ := hv
  subst hsz
  have hin : meth.name = "<init>" := by
    rw [(name_of_methodNamed B.named B.method).1, hnm]
  have hl := lv_entry ([.ref h0]) (n := M.2.2.1) hL
  rw [lg_entry_eq]
  refine k D h0 (va_A [(h0, .inr (ci, dfl))] s.heap.size) p l e s m _ below meth c s.heap [] _ ⟨B.exec, B.bytes, hml, B.returns, B.notSynchronized, findClass_of_methodNamed B.named, fun w hw => atoms_spec (ws := Cond.code M.1 M.2.1 M.2.2.1 M.2.2.2 :: gtb) B.pre w (List.mem_cons_of_mem _ hw), fun q h => Or.inr h, hin, hN⟩ hK hP (hD0.self (sz := s.heap.size)) va_S.rf ⟨hl.1, hl.2.1, fun i v hi => ?_⟩
  match i, hi with
  | 0, hi =>
    cases hi
    exact hl.2.2 (0, .ref h0) (List.mem_cons_self)
  | i + 1, hi =>
    have := List.mem_of_getElem? (show (List.replicate (M.2.2.1 - 1) (none : Option Value))[i]? = some (some v) from hi)
    rw [List.mem_replicate] at this
    cases this.2
end NRows
