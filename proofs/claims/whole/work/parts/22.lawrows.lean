/-! the law's own walk: the judgement GL (its rows) and SL over pure terms -/
theorem w_lawcode0 : True := trivial
abbrev m_law : gM := (yL_law, code, 4, some .boolean)
def gR_law : String := "TwoAgreeLaw"
def lw_Q (_ : Array Value) (s : State) (o : Outcome) (t : State) : Prop := o = .returned (some (.int 1)) ∧ Framed s o t [] 600000 7302250
def lw_Z (below : List Frame) (a : Array Value) (s : State) : State → Prop := fun t => ∃ o, t.status = .running ∧ Ended t below o ∧ lw_Q a s o t
theorem lw_ret {p : Program} {l : Launch} {e : Env} {s : State} {m : MethodId} {below : List Frame} {meth : Method} {c : Code} {b : Nat} (hx : p.tables.exec = Jvm.exec) (hb : c.code = code) (hr : meth.sig.returnType = ret) (hlocks : meth.locks = false) {pc : Nat} {H : Heap} {ls : Array Slot} (hdg : decode code pc = .ok (.ireturn, 1)) : W p l e room_1 s m #[Value.ref b] below meth c H [] 600000 7302250 (lw_Z below #[Value.ref b] s) (F0 m pc ls [.int 1]) := by
  intro T hT X
  obtain ⟨fs, hret, hrun, hended, hW, hframe⟩ := X.leave (v := some (.int 1)) (hlocks := hlocks) (fun h => by rw [hr] at h; cases h)
  have hmeth' : T.vm.method? m = some meth := X.method'
  refine ⟨T.setFrames fs, ?_, .returned (some (.int 1)), hrun, hended, rfl, ⟨_, rfl⟩, hW, hframe⟩
  jvm_step X.here [X.here.top, hx, hb, hdg, hmeth', hr, ret, narrow_b1]
  (try refine ⟨rfl, ?_⟩); (try refine ⟨rfl, ?_⟩)
  first | (intro acts; rw [hret _ acts rfl rfl rfl]) | rw [hret _ _ rfl rfl rfl]
  exact Steps.refl _
/-- the law's frame: the script (cell 2000) has XL ints xs; all that is new may be written -/
def LC (XL : Nat) (xs : Nat → Int32) (ad : Nat → Nat) (cA : Nat → ClassId) (D : va_G) (A : Nat → Prop) (p : Program) (s : State) (m : MethodId) (b : Nat) (meth : Method) (c : Code) : Prop :=
  gC m_law ad cA D A p s m #[Value.ref b] meth c ∧ va_X b XL xs s s.heap ∧ b < s.heap.size ∧ ¬ A b ∧ ad 2000 = b ∧ (∀ q, A q → s.heap.size ≤ q)
def GL (XL : Nat) (xs : Nat → Int32) (pc : Nat) (L : List (Option Value)) (st : List Value) (σ : gS) : Prop :=
  ∀ (ad : Nat → Nat) (cA : Nat → ClassId) (D : va_G) (A : Nat → Prop) (p : Program) (l : Launch) (e : Env) (s : State) (m : MethodId) (b : Nat) (below : List Frame) (meth : Method) (c : Code) (H : Heap) (locs : List Loc) (ls : Array Slot),
    LC XL xs ad cA D A p s m b meth c → va_P D gcl (gws ad cA σ) H → va_S A s.heap H locs → gLs ad 4 L ls →
    W p l e room_1 s m #[Value.ref b] below meth c H locs 600000 7302250 (lw_Z below #[Value.ref b] s) (F0 m pc ls (st.map (gtr ad)))
def SL (XL : Nat) (xs : Nat → Int32) (pc : Nat) (L : List (Option Value)) (st : List Value) (σ : gS) (o : Option Int32) : Prop := o = some 1 → GL XL xs pc L st σ
section LRows
variable {XL : Nat} {xs : Nat → Int32} {pc : Nat} {L L2 : List (Option Value)} {st : List Value} {σ : gS}
theorem gl_iconst {n : Int} {v : Int32} (hd : decode code pc = .ok (.iconst n, 1)) (hv : Int32.ofInt n = v) (k : GL XL xs (pc + 1) L (.int v :: st) σ) : GL XL xs pc L (st) σ := by
  intro ad cA D A p l e s m b below meth c H locs ls hC hP hS hl
  exact lv_iconst hC.1.1 hC.1.2.1 hd hv (k ad cA D A p l e s m b below meth c H locs ls hC hP hS hl)
theorem gl_bipush {n : Int} {v : Int32} (hd : decode code pc = .ok (.bipush n, 2)) (hv : (Int8.ofInt n).toInt32 = v) (k : GL XL xs (pc + 2) L (.int v :: st) σ) : GL XL xs pc L (st) σ := by
  intro ad cA D A p l e s m b below meth c H locs ls hC hP hS hl
  exact lv_bipush hC.1.1 hC.1.2.1 hd hv (k ad cA D A p l e s m b below meth c H locs ls hC hP hS hl)
theorem gl_ldc2 {i : Nat} {v : Int64} (hd : decode code pc = .ok (.ldc2_w i, 3)) (hv : Cond.constantLong RL i v ∈ gtb) (k : GL XL xs (pc + 3) L (.long v :: st) σ) : GL XL xs pc L (st) σ := by
  intro ad cA D A p l e s m b below meth c H locs ls hC hP hS hl
  exact lv_ldc2 hC.1.1 hC.1.2.1 hC.1.2.2.2.2.2.1 (hC.1.2.2.2.2.2.2.1 _ hv) hd (k ad cA D A p l e s m b below meth c H locs ls hC hP hS hl)
theorem gl_iload_n {j : Fin 4} {x : Int32} (hd : decode code pc = .ok (.iload_n j, 1)) (hx : L[(j : Nat)]? = some (some (.int x))) (k : GL XL xs (pc + 1) L (.int x :: st) σ) : GL XL xs pc L (st) σ := by
  intro ad cA D A p l e s m b below meth c H locs ls hC hP hS hl
  exact lv_iload_n hC.1.1 hC.1.2.1 hd rfl (hl.2.2 _ _ hx) (k ad cA D A p l e s m b below meth c H locs ls hC hP hS hl)
theorem gl_aload_n {j : Fin 4} {x : Nat} (hd : decode code pc = .ok (.aload_n j, 1)) (hx : L[(j : Nat)]? = some (some (.ref x))) (k : GL XL xs (pc + 1) L (.ref x :: st) σ) : GL XL xs pc L (st) σ := by
  intro ad cA D A p l e s m b below meth c H locs ls hC hP hS hl
  exact lv_aload_n hC.1.1 hC.1.2.1 hd rfl (hl.2.2 _ _ hx) (k ad cA D A p l e s m b below meth c H locs ls hC hP hS hl)
theorem gl_iadd {x y : Int32} (hd : decode code pc = .ok (.iadd, 1)) (k : GL XL xs (pc + 1) L (.int (x + y) :: st) σ) : GL XL xs pc L (.int y :: .int x :: st) σ := by
  intro ad cA D A p l e s m b below meth c H locs ls hC hP hS hl
  exact lv_iadd hC.1.1 hC.1.2.1 hd (k ad cA D A p l e s m b below meth c H locs ls hC hP hS hl)
theorem gl_isub {x y : Int32} (hd : decode code pc = .ok (.isub, 1)) (k : GL XL xs (pc + 1) L (.int (x - y) :: st) σ) : GL XL xs pc L (.int y :: .int x :: st) σ := by
  intro ad cA D A p l e s m b below meth c H locs ls hC hP hS hl
  exact lv_isub hC.1.1 hC.1.2.1 hd (k ad cA D A p l e s m b below meth c H locs ls hC hP hS hl)
theorem gl_iand {x y : Int32} (hd : decode code pc = .ok (.iand, 1)) (k : GL XL xs (pc + 1) L (.int (x &&& y) :: st) σ) : GL XL xs pc L (.int y :: .int x :: st) σ := by
  intro ad cA D A p l e s m b below meth c H locs ls hC hP hS hl
  exact lv_iand hC.1.1 hC.1.2.1 hd (k ad cA D A p l e s m b below meth c H locs ls hC hP hS hl)
theorem gl_land {x y : Int64} (hd : decode code pc = .ok (.land, 1)) (k : GL XL xs (pc + 1) L (.long (x &&& y) :: st) σ) : GL XL xs pc L (.long y :: .long x :: st) σ := by
  intro ad cA D A p l e s m b below meth c H locs ls hC hP hS hl
  exact lv_land hC.1.1 hC.1.2.1 hd (k ad cA D A p l e s m b below meth c H locs ls hC hP hS hl)
theorem gl_lor {x y : Int64} (hd : decode code pc = .ok (.lor, 1)) (k : GL XL xs (pc + 1) L (.long (x ||| y) :: st) σ) : GL XL xs pc L (.long y :: .long x :: st) σ := by
  intro ad cA D A p l e s m b below meth c H locs ls hC hP hS hl
  exact lv_lor hC.1.1 hC.1.2.1 hd (k ad cA D A p l e s m b below meth c H locs ls hC hP hS hl)
theorem gl_lshl {x : Int64} {y : Int32} (hd : decode code pc = .ok (.lshl, 1)) (k : GL XL xs (pc + 1) L (.long (x <<< (y.toInt64 &&& 63)) :: st) σ) : GL XL xs pc L (.int y :: .long x :: st) σ := by
  intro ad cA D A p l e s m b below meth c H locs ls hC hP hS hl
  exact lv_lshl hC.1.1 hC.1.2.1 hd rfl (k ad cA D A p l e s m b below meth c H locs ls hC hP hS hl)
theorem gl_i2l {x : Int32} (hd : decode code pc = .ok (.i2l, 1)) (k : GL XL xs (pc + 1) L (.long (x.toInt64) :: st) σ) : GL XL xs pc L (.int x :: st) σ := by
  intro ad cA D A p l e s m b below meth c H locs ls hC hP hS hl
  exact lv_i2l hC.1.1 hC.1.2.1 hd rfl (k ad cA D A p l e s m b below meth c H locs ls hC hP hS hl)
theorem gl_lcmp {x y : Int64} (hd : decode code pc = .ok (.lcmp, 1)) (k : GL XL xs (pc + 1) L (.int (lg_cmp x y) :: st) σ) : GL XL xs pc L (.long y :: .long x :: st) σ := by
  intro ad cA D A p l e s m b below meth c H locs ls hC hP hS hl
  exact W.lcmp hC.1.1 hC.1.2.1 hd (k ad cA D A p l e s m b below meth c H locs ls hC hP hS hl)
theorem gl_iinc {i : Nat} {n : Int} {x v : Int32} (hd : decode code pc = .ok (.iinc i n, 3)) (hx : L[i]? = some (some (.int x))) (hv : x + Int32.ofInt n = v) (hn : i < 4) (hL : gput1 i (.int v) L = L2) (k : GL XL xs (pc + 3) L2 st σ) : GL XL xs pc L st σ := by
  intro ad cA D A p l e s m b below meth c H locs ls hC hP hS hl
  obtain ⟨j, hj⟩ := List.getElem?_of_mem (gPr_mem (ad := ad) hx)
  exact lv_iinc hC.1.1 hC.1.2.1 hd (gLs_has hl) (k := j) hj hv hn rfl (fun ls2 hl2 => k ad cA D A p l e s m b below meth c H locs ls2 hC hP hS (hL ▸ gLs_put1 (v := .int v) hl hl2))
theorem gl_icmp_eq {x y : Int32} {off : Int} {tgt : Nat} (hd : decode code pc = .ok (.if_icmp .eq off, 3)) (ht : (pc : Int) + off = (tgt : Int)) (kt : x = y → GL XL xs tgt L st σ) (kf : ¬ (x = y) → GL XL xs (pc + 3) L st σ) : GL XL xs pc L (.int y :: .int x :: st) σ := by
  intro ad cA D A p l e s m b below meth c H locs ls hC hP hS hl
  exact lv_icmp_eq hC.1.1 hC.1.2.1 hd ht (fun h => kt h ad cA D A p l e s m b below meth c H locs ls hC hP hS hl) (fun h => kf h ad cA D A p l e s m b below meth c H locs ls hC hP hS hl)
theorem gl_icmp_gt {x y : Int32} {off : Int} {tgt : Nat} (hd : decode code pc = .ok (.if_icmp .gt off, 3)) (ht : (pc : Int) + off = (tgt : Int)) (kt : y < x → GL XL xs tgt L st σ) (kf : ¬ (y < x) → GL XL xs (pc + 3) L st σ) : GL XL xs pc L (.int y :: .int x :: st) σ := by
  intro ad cA D A p l e s m b below meth c H locs ls hC hP hS hl
  exact lv_icmp_gt hC.1.1 hC.1.2.1 hd ht (fun h => kt h ad cA D A p l e s m b below meth c H locs ls hC hP hS hl) (fun h => kf h ad cA D A p l e s m b below meth c H locs ls hC hP hS hl)
theorem gl_if_eq {x : Int32} {off : Int} {tgt : Nat} (hd : decode code pc = .ok (.ifCond .eq off, 3)) (ht : (pc : Int) + off = (tgt : Int)) (kt : x = 0 → GL XL xs tgt L st σ) (kf : ¬ (x = 0) → GL XL xs (pc + 3) L st σ) : GL XL xs pc L (.int x :: st) σ := by
  intro ad cA D A p l e s m b below meth c H locs ls hC hP hS hl
  exact lv_if_eq hC.1.1 hC.1.2.1 hd ht (fun h => kt h ad cA D A p l e s m b below meth c H locs ls hC hP hS hl) (fun h => kf h ad cA D A p l e s m b below meth c H locs ls hC hP hS hl)
theorem gl_goto {off : Int} {tgt : Nat} (hd : decode code pc = .ok (.goto off, 3)) (ht : (pc : Int) + off = (tgt : Int)) (k : GL XL xs tgt L st σ) : GL XL xs pc L st σ := by
  intro ad cA D A p l e s m b below meth c H locs ls hC hP hS hl
  exact lv_goto hC.1.1 hC.1.2.1 hd ht (k ad cA D A p l e s m b below meth c H locs ls hC hP hS hl)
theorem gl_tableOut {dflt lo hi : Int} {offs : Array Int} {len : Nat} {x : Int32} {tgt : Nat} (hd : decode code pc = .ok (.tableswitch dflt lo hi offs, len)) (h : x.toInt < lo ∨ hi < x.toInt) (ht : (pc : Int) + dflt = (tgt : Int)) (k : GL XL xs tgt L st σ) : GL XL xs pc L (.int x :: st) σ := by
  intro ad cA D A p l e s m b below meth c H locs ls hC hP hS hl
  exact lv_tableOut hC.1.1 hC.1.2.1 hd h ht (k ad cA D A p l e s m b below meth c H locs ls hC hP hS hl)
theorem gl_tableIn {dflt lo hi : Int} {offs : Array Int} {len : Nat} {x : Int32} {off : Int} {tgt : Nat} (hd : decode code pc = .ok (.tableswitch dflt lo hi offs, len)) (h1 : ¬ x.toInt < lo) (h2 : ¬ hi < x.toInt) (ho : offs[(x.toInt - lo).toNat]? = some off) (ht : (pc : Int) + off = (tgt : Int)) (k : GL XL xs tgt L st σ) : GL XL xs pc L (.int x :: st) σ := by
  intro ad cA D A p l e s m b below meth c H locs ls hC hP hS hl
  exact lv_tableIn hC.1.1 hC.1.2.1 hd h1 h2 ho ht (k ad cA D A p l e s m b below meth c H locs ls hC hP hS hl)
theorem gl_sald {i : Int32} (hi : vp_in i XL) (hd : decode code pc = .ok (.iaload, 1)) (k : GL XL xs (pc + 1) L (.int (xs i.toNatClampNeg) :: st) σ) : GL XL xs pc L (.int i :: .ref 2000 :: st) σ := by
  intro ad cA D A p l e s m b below meth c H locs ls hC hP hS hl
  show W p l e room_1 s m #[Value.ref b] below meth c H locs 600000 7302250 (lw_Z below #[Value.ref b] s) (F0 m pc ls (.int i :: .ref (ad 2000) :: st.map (gtr ad)))
  rw [hC.2.2.2.2.1]
  exact va_sld hC.1.1 hC.1.2.1 hC.2.1 hC.2.2.1 hC.2.2.2.1 hS hi hd (k ad cA D A p l e s m b below meth c H locs ls hC hP hS hl)
theorem gl_salen (hd : decode code pc = .ok (.arraylength, 1)) (k : GL XL xs (pc + 1) L (.int (Int32.ofNat XL) :: st) σ) : GL XL xs pc L (.ref 2000 :: st) σ := by
  intro ad cA D A p l e s m b below meth c H locs ls hC hP hS hl
  show W p l e room_1 s m #[Value.ref b] below meth c H locs 600000 7302250 (lw_Z below #[Value.ref b] s) (F0 m pc ls (.ref (ad 2000) :: st.map (gtr ad)))
  rw [hC.2.2.2.2.1]
  exact va_slen hC.1.1 hC.1.2.1 hC.2.1 hC.2.2.1 hC.2.2.2.1 hS hd (k ad cA D A p l e s m b below meth c H locs ls hC hP hS hl)
theorem gl_wk (hl2 : gLe L2 L) (k : GL XL xs pc L2 st σ) : GL XL xs pc L st σ := by
  intro ad cA D A p l e s m b below meth c H locs ls hC hP hS hls
  exact k ad cA D A p l e s m b below meth c H locs ls hC hP hS ⟨hls.1, hls.2.1, fun i v hi => hls.2.2 i v (gLe_get L2 L hl2 i v hi)⟩
theorem gl_callV {M2 : gM} {idx n b0 ci : Nat} {vs stk : List Value} (hk : gLV RL idx M2 n) (hb : gcls b0 = some ci) (hci : (gcl[ci]?).map (fun q => q.1) = some M2.1.cls) (hn : vs.length = n) (hm : M2.2.2.1 ≤ 45) (hr : (st.map fun v => v.category).sum ≤ 8) (hstk : stk = vs.reverse ++ .ref b0 :: st) (hd : decode code pc = .ok (.invokevirtual idx, 3))
    (k : Ct 1000 M2 (.ref b0 :: vs) σ (fun r τ => GL XL xs (pc + 3) L (r.toList ++ st) τ)) : GL XL xs pc L stk σ := by
  subst hstk
  intro ad cA D A p l e s m b below meth c H locs ls hC hP hS hl
  obtain ⟨hB, h1, h2, h3⟩ := hk
  obtain ⟨fs, hfs⟩ := gcls_spec hb
  obtain ⟨q, hq1, hq2⟩ : ∃ q, gcl[ci]? = some q ∧ q.1 = M2.1.cls := by
    cases hq : gcl[ci]? with
    | none => rw [hq] at hci; cases hci
    | some q => rw [hq] at hci; exact ⟨q, rfl, Option.some.inj hci⟩
  have hC0 := hC.1
  have hrec := va_recv hC0.2.2.2.2.2.2.2.1 hP hq1 (gws_get (ad := ad) (cA := cA) σ hfs)
  rw [hq2] at hrec
  have hcw : CallB room_1 s #[Value.ref b] RL idx M2.1 M2.2.1 M2.2.2.1 M2.2.2.2 (Cond.code M2.1 M2.2.1 M2.2.2.1 M2.2.2.2 :: gtb) (gR 1000) 0 0 n :=
    callB_of n hC0.2.2.2.2.2.2.1 (gt_good hB.1) rfl rfl rfl (hC0.2.2.2.2.2.2.1 _ hB.2.1) (hC0.2.2.2.2.2.2.1 _ h1) hB.2.2 ⟨by show 1000 + 1 ≤ 2048; omega, by show 8 + (M2.2.2.1 + 11) + 64 * 1000 ≤ 84000; omega⟩
  have hrun := va_runV (p := p) (l := l) (e := e) (R := room_1) (s := s) (m := m) (args := #[Value.ref b]) (below := below) (meth := meth) (c := c) (H := H) (locs := locs) (cells := 600000) (slots := 7302250) (cc := code) (nL := 4) (Ts := gtb) (own := RL) (As := vs.map (gtr ad)) (rest := st.map (gtr ad)) (b := ad b0) (g := F0 m pc ls ((vs.reverse ++ .ref b0 :: st).map (gtr ad))) ⟨hC0.1, hC0.2.1, hC0.2.2.1, hC0.2.2.2.2.2.1, hC0.2.2.2.2.2.2.1⟩ (k ad cA D A l) ⟨hcw, hC0.2.2.2.2.2.2.1 _ h2, hC0.2.2.2.2.2.2.1 _ h3⟩ ⟨gW_blind, hrec, fun U hU hW => ⟨rfl, gW_at hC0 hP hS hU hW⟩⟩ rfl (by rw [List.length_map]; exact hn) hl.1 (by
      show (vs.reverse ++ .ref b0 :: st).map (gtr ad) = _
      rw [List.map_append, List.map_reverse]
      rfl) (lv_room (by rw [gsum]; exact hr)) hd ⟨Nat.le_refl _, Nat.le_refl _⟩
  intro T hT X
  obtain ⟨v, st₀, t, T', L', h0, X', hL, e1, e2, ⟨⟨r, τ, hv, hq, hP1⟩, hz, hk⟩, hst⟩ := hrun T hT X
  cases hv
  rw [h0] at hz hk
  obtain ⟨t2, a1, b1⟩ := hq ad cA D A p l e s m b below meth c T'.heap (locs ++ L') ls hC (by rw [e1]; exact hP1)
    ⟨Nat.le_trans hS.1 (by rw [e1]; exact hz), fun q h1 h2 => by rw [e1, hk q (Nat.lt_of_lt_of_le h1 hS.1) h2]; exact hS.2.1 q h1 h2, fun q hq => by
      rcases List.mem_append.mp hq with h | h
      · exact hS.2.2 q h
      · exact hL q h⟩ hl T' rfl X'
  refine ⟨t2, hst t2 ?_, b1⟩
  have he : ((r.map (gtr ad)).toList ++ st.map (gtr ad)) = (r.toList ++ st).map (gtr ad) := by cases r <;> rfl
  show Steps p.tables e below (T'.setTop (F0 m (pc + 3) ls ((r.map (gtr ad)).toList ++ st.map (gtr ad)))) t2
  rw [he]
  exact a1
theorem gl_iret1 (hd : decode code pc = .ok (.ireturn, 1)) : GL XL xs pc L [.int 1] σ := by
  intro ad cA D A p l e s m b below meth c H locs ls hC hP hS hl
  refine va_forget (fun q hq => hC.2.2.2.2.2 _ (hS.2.2 q hq)) ?_
  exact lw_ret hC.1.1 hC.1.2.1 hC.1.2.2.2.1 hC.1.2.2.2.2.1 hd
/-! over pure terms -/
variable {t e pc2 pc3 : Nat} {st2 stk : List Value} {σ2 : gS} {o o1 o2 : Option Int32}
theorem SL.of1 (h : Unit → GL XL xs pc2 L2 st2 σ2 → GL XL xs pc L st σ) (k : SL XL xs pc2 L2 st2 σ2 o) : SL XL xs pc L st σ o := fun h1 => h () (k h1)
theorem SL.wk (hl : gLe L2 L) (k : SL XL xs pc L2 st σ o) : SL XL xs pc L st σ o := fun h1 => gl_wk hl (k h1)
theorem SL.cs {c : Prop} [hc : Decidable c] (kt : c → SL XL xs pc L st σ o1) (kf : ¬ c → SL XL xs pc L st σ o2) : SL XL xs pc L st σ (if c then o1 else o2) := by
  by_cases q : c
  · rw [if_pos q]
    exact kt q
  · rw [if_neg q]
    exact kf q
theorem SL.br {c : Prop} [hc : Decidable c] (h : Unit → (c → GL XL xs t L st2 σ2) → (¬ c → GL XL xs e L st2 σ2) → GL XL xs pc L st σ) (kt : c → SL XL xs t L st2 σ2 o1) (kf : ¬ c → SL XL xs e L st2 σ2 o2) : SL XL xs pc L st σ (if c then o1 else o2) := by
  intro h1
  refine h () (fun q => kt q ?_) (fun q => kf q ?_)
  · rw [if_pos q] at h1
    exact h1
  · rw [if_neg q] at h1
    exact h1
theorem SL.no : SL XL xs pc L st σ none := fun h1 => by cases h1
theorem SL.chk {c : Prop} [hc : Decidable c] (k : c → SL XL xs pc L st σ o) : SL XL xs pc L st σ (if c then o else none) := SL.cs k (fun _ => SL.no)
theorem SL.call {β : Type} {res2 : β → Option Value × gS} {M2 : gM} {vs : List Value} {b2 : Option β} {ko : β → Option Int32} (hc : C res2 1000 M2 vs σ b2)
    (h : Ct 1000 M2 vs σ (fun r τ => GL XL xs (pc + 3) L (r.toList ++ st) τ) → GL XL xs pc L stk σ)
    (k : ∀ b, SL XL xs (pc + 3) L ((res2 b).1.toList ++ st) (res2 b).2 (ko b)) : SL XL xs pc L stk σ (b2.bind ko) := by
  intro h1
  obtain ⟨b, hb, hk⟩ := Option.bind_eq_some_iff.mp h1
  exact h (hc b _ hb (k b hk))
theorem SL.call_rI {M2 : gM} {vs : List Value} {b2 : Option Int32} {ko : Int32 → Option Int32} (hp : pc + 3 = pc3) (hc : C (rI σ) 1000 M2 vs σ b2) (h : Unit → Ct 1000 M2 vs σ (fun r τ => GL XL xs (pc + 3) L (r.toList ++ st) τ) → GL XL xs pc L stk σ) (k : ∀ b : Int32, SL XL xs pc3 L (.int b :: st) σ (ko b)) : SL XL xs pc L stk σ (b2.bind ko) := by
  subst hp
  exact SL.call hc (h ()) k
theorem SL.call_rJ {M2 : gM} {vs : List Value} {b2 : Option Int64} {ko : Int64 → Option Int32} (hp : pc + 3 = pc3) (hc : C (rJ σ) 1000 M2 vs σ b2) (h : Unit → Ct 1000 M2 vs σ (fun r τ => GL XL xs (pc + 3) L (r.toList ++ st) τ) → GL XL xs pc L stk σ) (k : ∀ b : Int64, SL XL xs pc3 L (.long b :: st) σ (ko b)) : SL XL xs pc L stk σ (b2.bind ko) := by
  subst hp
  exact SL.call hc (h ()) k
theorem SL.call_wI {M2 : gM} {vs : List Value} {b2 : Option (Int32 × gS)} {ko : Int32 × gS → Option Int32} (hp : pc + 3 = pc3) (hc : C wI 1000 M2 vs σ b2) (h : Unit → Ct 1000 M2 vs σ (fun r τ => GL XL xs (pc + 3) L (r.toList ++ st) τ) → GL XL xs pc L stk σ) (k : ∀ b : Int32 × gS, SL XL xs pc3 L (.int b.1 :: st) b.2 (ko b)) : SL XL xs pc L stk σ (b2.bind ko) := by
  subst hp
  exact SL.call hc (h ()) k
theorem SL.ret1 (h : Unit → GL XL xs pc L [.int 1] σ) : SL XL xs pc L [.int 1] σ (some 1) := fun _ => h ()
theorem SL.ret0 : SL XL xs pc L [.int 0] σ (some 0) := fun h => absurd (Option.some.inj h) (by decide)
end LRows
