theorem w_98 : (Cond.instantiable "TwoAgree" (9 : Nat)) ∈ gtb := gt_sg sg_1 23 (by decide +kernel) (by decide +kernel)
theorem w_1130 : (Cond.instantiable "TwoAgreeModel" (40 : Nat)) ∈ gtb := gt_sg sg_5 95 (by decide +kernel) (by decide +kernel)
theorem w_97 : (Cond.classLink "TwoAgreeLaw" (7 : Nat) "TwoAgree") ∈ gtb := gt_sg sg_1 22 (by decide +kernel) (by decide +kernel)
theorem w_1129 : (Cond.classLink "TwoAgreeLaw" (10 : Nat) "TwoAgreeModel") ∈ gtb := gt_sg sg_5 94 (by decide +kernel) (by decide +kernel)
theorem w_99 : (Cond.methodLink "TwoAgreeLaw" (9 : Nat) ({ cls := "TwoAgree", name := "<init>", desc := "()V" } : MethodName)) ∈ gtb := gt_sg sg_1 24 (by decide +kernel) (by decide +kernel)
theorem w_100 : (Cond.instanceMethod ({ cls := "TwoAgree", name := "<init>", desc := "()V" } : MethodName)) ∈ gtb := gt_sg sg_1 25 (by decide +kernel) (by decide +kernel)
theorem w_101 : Cond.code m_T_new.1 m_T_new.2.1 m_T_new.2.2.1 m_T_new.2.2.2 ∈ gtb := gt_sg sg_1 26 (by decide +kernel) (by decide +kernel)
theorem w_1131 : (Cond.methodLink "TwoAgreeLaw" (12 : Nat) ({ cls := "TwoAgreeModel", name := "<init>", desc := "()V" } : MethodName)) ∈ gtb := gt_sg sg_5 96 (by decide +kernel) (by decide +kernel)
theorem w_1132 : (Cond.instanceMethod ({ cls := "TwoAgreeModel", name := "<init>", desc := "()V" } : MethodName)) ∈ gtb := gt_sg sg_5 97 (by decide +kernel) (by decide +kernel)
theorem w_1133 : Cond.code m_M_new.1 m_M_new.2.1 m_M_new.2.2.1 m_M_new.2.2.2 ∈ gtb := gt_sg sg_5 98 (by decide +kernel) (by decide +kernel)
theorem x_497 : (Cond.laysStatic "TwoAgree$Island" "LEAST" "[I") ∈ lw_tbl := sg_2 _ (List.mem_of_getElem? (i := 182) (by decide +kernel))
theorem x_77 : (Cond.initialized "TwoAgree$Island") ∈ lw_tbl := sg_1 _ (List.mem_of_getElem? (i := 2) (by decide +kernel))
theorem x_494 : (Cond.laysStatic "TwoAgree$Island" "MOST" "[I") ∈ lw_tbl := sg_2 _ (List.mem_of_getElem? (i := 179) (by decide +kernel))
theorem x_1072 : (Cond.laysStatic "TwoAgree$Words" "ABOVE" "[I") ∈ lw_tbl := sg_5 _ (List.mem_of_getElem? (i := 37) (by decide +kernel))
theorem x_85 : (Cond.initialized "TwoAgree$Words") ∈ lw_tbl := sg_1 _ (List.mem_of_getElem? (i := 10) (by decide +kernel))
theorem x_1070 : (Cond.laysStatic "TwoAgree$Words" "OWN" "[I") ∈ lw_tbl := sg_5 _ (List.mem_of_getElem? (i := 35) (by decide +kernel))
theorem x_581 : (Cond.laysStatic "java/lang/String" "COMPACT_STRINGS" "Z") ∈ lw_tbl := sg_3 _ (List.mem_of_getElem? (i := 26) (by decide +kernel))
theorem x_89 : (Cond.initialized "java/lang/String") ∈ lw_tbl := sg_1 _ (List.mem_of_getElem? (i := 14) (by decide +kernel))
theorem x_567 : (Cond.stringRef "TwoAgree$Parser" (83 : Nat) "tekpdc") ∈ lw_tbl := sg_3 _ (List.mem_of_getElem? (i := 12) (by decide +kernel))
theorem d_law_0 : decode code 0 = .ok (.new 7, 3) := by decide +kernel
theorem d_law_3 : decode code 3 = .ok (.dup, 1) := by decide +kernel
theorem d_law_4 : decode code 4 = .ok (.invokespecial 9, 3) := by decide +kernel
theorem d_law_7 : decode code 7 = .ok (.astore_n 1, 1) := by decide +kernel
theorem d_law_8 : decode code 8 = .ok (.new 10, 3) := by decide +kernel
theorem d_law_11 : decode code 11 = .ok (.dup, 1) := by decide +kernel
theorem d_law_12 : decode code 12 = .ok (.invokespecial 12, 3) := by decide +kernel
theorem d_law_15 : decode code 15 = .ok (.astore_n 2, 1) := by decide +kernel
theorem d_law_16 : decode code 16 = .ok (.iconst 0, 1) := by decide +kernel
theorem d_law_17 : decode code 17 = .ok (.istore_n 3, 1) := by decide +kernel
theorem gnest_in : ∀ w ∈ gnest, w ∈ lw_tbl := by
  intro w hw
  rw [show gnest = ([107, 113, 196, 232, 237, 272, 304, 331, 349, 354, 377, 404, 495, 566, 699, 730, 773, 843, 940, 993, 1061] : List Nat).filterMap (fun i => lw_tbl[i]?) from by decide +kernel] at hw
  obtain ⟨i, -, hi⟩ := List.mem_filterMap.mp hw
  exact List.mem_of_getElem? hi
theorem gao_in : Cond.arrayOver (.object "TwoAgree$Shelf") ∈ lw_tbl := List.mem_of_getElem? (i := 402) (by decide +kernel)
theorem known_of {s : State} {args : Array Value} (hts : ∀ w ∈ gtb, w.before args s = true) : ∃ (dC : Nat → ClassId) (dI : Nat → Nat → Nat), ∀ (k : Nat) (q : vw_C), gcl[k]? = some q → u_Kn s q.1 q.2.1 q.2.2 (dC k) (dI k) := by
  have h0 : ∀ k : Nat, ∃ z : ClassId × (Nat → Nat), ∀ q : vw_C, gcl[k]? = some q → u_Kn s q.1 q.2.1 q.2.2 z.1 z.2 := by
    intro k
    match k with
    | 0 =>
      obtain ⟨c0, i0, h⟩ := u_known (C := RX0) (T := TX0) (N := 9) (n := 9) hts uw_0 (hts _ w_231)
      exact ⟨(c0, i0), fun q hq => by cases hq; exact h⟩
    | 1 =>
      obtain ⟨c0, i0, h⟩ := u_known (C := RX1) (T := TX1) (N := 6) (n := 6) hts uw_1 (hts _ w_303)
      exact ⟨(c0, i0), fun q hq => by cases hq; exact h⟩
    | 2 =>
      obtain ⟨c0, i0, h⟩ := u_known (C := RX2) (T := TX2) (N := 8) (n := 8) hts uw_2 (hts _ w_195)
      exact ⟨(c0, i0), fun q hq => by cases hq; exact h⟩
    | 3 =>
      obtain ⟨c0, i0, h⟩ := u_known (C := RX3) (T := TX3) (N := 10) (n := 10) hts uw_3 (hts _ w_106)
      exact ⟨(c0, i0), fun q hq => by cases hq; exact h⟩
    | 4 =>
      obtain ⟨c0, i0, h⟩ := u_known (C := RX4) (T := TX4) (N := 6) (n := 6) hts uw_4 (hts _ w_112)
      exact ⟨(c0, i0), fun q hq => by cases hq; exact h⟩
    | 5 =>
      obtain ⟨c0, i0, h⟩ := u_known (C := RX5) (T := TX5) (N := 3) (n := 3) hts uw_5 (hts _ w_330)
      exact ⟨(c0, i0), fun q hq => by cases hq; exact h⟩
    | 6 =>
      obtain ⟨c0, i0, h⟩ := u_known (C := RX6) (T := TX6) (N := 8) (n := 8) hts uw_6 (hts _ w_271)
      exact ⟨(c0, i0), fun q hq => by cases hq; exact h⟩
    | 7 =>
      obtain ⟨c0, i0, h⟩ := u_known (C := RX7) (T := TX7) (N := 6) (n := 6) hts uw_7 (hts _ w_348)
      exact ⟨(c0, i0), fun q hq => by cases hq; exact h⟩
    | 8 =>
      obtain ⟨c0, i0, h⟩ := u_known (C := RX8) (T := TX8) (N := 5) (n := 5) hts uw_8 (hts _ w_403)
      exact ⟨(c0, i0), fun q hq => by cases hq; exact h⟩
    | 9 =>
      obtain ⟨c0, i0, h⟩ := u_known (C := RX9) (T := TX9) (N := 5) (n := 5) hts uw_9 (hts _ w_376)
      exact ⟨(c0, i0), fun q hq => by cases hq; exact h⟩
    | 10 =>
      obtain ⟨c0, i0, h⟩ := u_known (C := RX10) (T := TX10) (N := 9) (n := 9) hts uw_10 (hts _ w_98)
      exact ⟨(c0, i0), fun q hq => by cases hq; exact h⟩
    | 11 =>
      obtain ⟨c0, i0, h⟩ := u_known (C := RX11) (T := TX11) (N := 40) (n := 40) hts uw_11 (hts _ w_1130)
      exact ⟨(c0, i0), fun q hq => by cases hq; exact h⟩
    | k + 12 => exact ⟨(0, fun _ => 0), fun q hq => by simp [gcl] at hq⟩
  obtain ⟨f, hf⟩ := Classical.axiomOfChoice h0
  exact ⟨fun k => (f k).1, fun k => (f k).2, fun k q hq => hf k q hq⟩
theorem tab_LEAST {s : State} {args : Array Value} {A : Nat → Prop} (hts : ∀ w ∈ lw_tbl, w.before args s = true) (hq : ∀ c ∈ flatC (Jvm.Cond.and given_1 narrow_1), c.before args s = true) (hA : ∀ a : Nat, a < s.heap.size → ¬ A a) : ∃ t : Nat, va_Z RX3 "LEAST" "[I" (.ref t) A s s.heap ∧ va_T .int t 7 (fun j => .int (tb_LEAST.getD j 0)) A s s.heap := by
  obtain ⟨t, ht, hT⟩ := va_Tof (tm := .static RX3 "LEAST" "[I") (ty := .int) (N := 7) (f := fun j => .int (tb_LEAST.getD j 0)) (A := A) (by decide) (hq _ (by decide +kernel)) (va_eqt (hq _ (by decide +kernel))) (fun j hj => by
    match j, hj with
    | 0, _ => exact va_eqt (hq _ (by decide +kernel))
    | 1, _ => exact va_eqt (hq _ (by decide +kernel))
    | 2, _ => exact va_eqt (hq _ (by decide +kernel))
    | 3, _ => exact va_eqt (hq _ (by decide +kernel))
    | 4, _ => exact va_eqt (hq _ (by decide +kernel))
    | 5, _ => exact va_eqt (hq _ (by decide +kernel))
    | 6, _ => exact va_eqt (hq _ (by decide +kernel))
    | j + 7, hj => omega) hA
  exact ⟨t, va_Zref (hts _ x_497) (hts _ x_77) ht hA, hT⟩
theorem tab_MOST {s : State} {args : Array Value} {A : Nat → Prop} (hts : ∀ w ∈ lw_tbl, w.before args s = true) (hq : ∀ c ∈ flatC (Jvm.Cond.and given_1 narrow_1), c.before args s = true) (hA : ∀ a : Nat, a < s.heap.size → ¬ A a) : ∃ t : Nat, va_Z RX3 "MOST" "[I" (.ref t) A s s.heap ∧ va_T .int t 7 (fun j => .int (tb_MOST.getD j 0)) A s s.heap := by
  obtain ⟨t, ht, hT⟩ := va_Tof (tm := .static RX3 "MOST" "[I") (ty := .int) (N := 7) (f := fun j => .int (tb_MOST.getD j 0)) (A := A) (by decide) (hq _ (by decide +kernel)) (va_eqt (hq _ (by decide +kernel))) (fun j hj => by
    match j, hj with
    | 0, _ => exact va_eqt (hq _ (by decide +kernel))
    | 1, _ => exact va_eqt (hq _ (by decide +kernel))
    | 2, _ => exact va_eqt (hq _ (by decide +kernel))
    | 3, _ => exact va_eqt (hq _ (by decide +kernel))
    | 4, _ => exact va_eqt (hq _ (by decide +kernel))
    | 5, _ => exact va_eqt (hq _ (by decide +kernel))
    | 6, _ => exact va_eqt (hq _ (by decide +kernel))
    | j + 7, hj => omega) hA
  exact ⟨t, va_Zref (hts _ x_494) (hts _ x_77) ht hA, hT⟩
theorem tab_ABOVE {s : State} {args : Array Value} {A : Nat → Prop} (hts : ∀ w ∈ lw_tbl, w.before args s = true) (hq : ∀ c ∈ flatC (Jvm.Cond.and given_1 narrow_1), c.before args s = true) (hA : ∀ a : Nat, a < s.heap.size → ¬ A a) : ∃ t : Nat, va_Z RX9 "ABOVE" "[I" (.ref t) A s s.heap ∧ va_T .int t 8 (fun j => .int (tb_ABOVE.getD j 0)) A s s.heap := by
  obtain ⟨t, ht, hT⟩ := va_Tof (tm := .static RX9 "ABOVE" "[I") (ty := .int) (N := 8) (f := fun j => .int (tb_ABOVE.getD j 0)) (A := A) (by decide) (hq _ (by decide +kernel)) (va_eqt (hq _ (by decide +kernel))) (fun j hj => by
    match j, hj with
    | 0, _ => exact va_eqt (hq _ (by decide +kernel))
    | 1, _ => exact va_eqt (hq _ (by decide +kernel))
    | 2, _ => exact va_eqt (hq _ (by decide +kernel))
    | 3, _ => exact va_eqt (hq _ (by decide +kernel))
    | 4, _ => exact va_eqt (hq _ (by decide +kernel))
    | 5, _ => exact va_eqt (hq _ (by decide +kernel))
    | 6, _ => exact va_eqt (hq _ (by decide +kernel))
    | 7, _ => exact va_eqt (hq _ (by decide +kernel))
    | j + 8, hj => omega) hA
  exact ⟨t, va_Zref (hts _ x_1072) (hts _ x_85) ht hA, hT⟩
theorem tab_OWN {s : State} {args : Array Value} {A : Nat → Prop} (hts : ∀ w ∈ lw_tbl, w.before args s = true) (hq : ∀ c ∈ flatC (Jvm.Cond.and given_1 narrow_1), c.before args s = true) (hA : ∀ a : Nat, a < s.heap.size → ¬ A a) : ∃ t : Nat, va_Z RX9 "OWN" "[I" (.ref t) A s s.heap ∧ va_T .int t 32 (fun j => .int (tb_OWN.getD j 0)) A s s.heap := by
  obtain ⟨t, ht, hT⟩ := va_Tof (tm := .static RX9 "OWN" "[I") (ty := .int) (N := 32) (f := fun j => .int (tb_OWN.getD j 0)) (A := A) (by decide) (hq _ (by decide +kernel)) (va_eqt (hq _ (by decide +kernel))) (fun j hj => by
    match j, hj with
    | 0, _ => exact va_eqt (hq _ (by decide +kernel))
    | 1, _ => exact va_eqt (hq _ (by decide +kernel))
    | 2, _ => exact va_eqt (hq _ (by decide +kernel))
    | 3, _ => exact va_eqt (hq _ (by decide +kernel))
    | 4, _ => exact va_eqt (hq _ (by decide +kernel))
    | 5, _ => exact va_eqt (hq _ (by decide +kernel))
    | 6, _ => exact va_eqt (hq _ (by decide +kernel))
    | 7, _ => exact va_eqt (hq _ (by decide +kernel))
    | 8, _ => exact va_eqt (hq _ (by decide +kernel))
    | 9, _ => exact va_eqt (hq _ (by decide +kernel))
    | 10, _ => exact va_eqt (hq _ (by decide +kernel))
    | 11, _ => exact va_eqt (hq _ (by decide +kernel))
    | 12, _ => exact va_eqt (hq _ (by decide +kernel))
    | 13, _ => exact va_eqt (hq _ (by decide +kernel))
    | 14, _ => exact va_eqt (hq _ (by decide +kernel))
    | 15, _ => exact va_eqt (hq _ (by decide +kernel))
    | 16, _ => exact va_eqt (hq _ (by decide +kernel))
    | 17, _ => exact va_eqt (hq _ (by decide +kernel))
    | 18, _ => exact va_eqt (hq _ (by decide +kernel))
    | 19, _ => exact va_eqt (hq _ (by decide +kernel))
    | 20, _ => exact va_eqt (hq _ (by decide +kernel))
    | 21, _ => exact va_eqt (hq _ (by decide +kernel))
    | 22, _ => exact va_eqt (hq _ (by decide +kernel))
    | 23, _ => exact va_eqt (hq _ (by decide +kernel))
    | 24, _ => exact va_eqt (hq _ (by decide +kernel))
    | 25, _ => exact va_eqt (hq _ (by decide +kernel))
    | 26, _ => exact va_eqt (hq _ (by decide +kernel))
    | 27, _ => exact va_eqt (hq _ (by decide +kernel))
    | 28, _ => exact va_eqt (hq _ (by decide +kernel))
    | 29, _ => exact va_eqt (hq _ (by decide +kernel))
    | 30, _ => exact va_eqt (hq _ (by decide +kernel))
    | 31, _ => exact va_eqt (hq _ (by decide +kernel))
    | j + 32, hj => omega) hA
  exact ⟨t, va_Zref (hts _ x_1070) (hts _ x_85) ht hA, hT⟩
theorem str_tk {s : State} {args : Array Value} {A : Nat → Prop} (hts : ∀ w ∈ lw_tbl, w.before args s = true) (hq : ∀ c ∈ flatC (Jvm.Cond.and given_1 narrow_1), c.before args s = true) (hA : ∀ a : Nat, a < s.heap.size → ¬ A a) : ∃ a b : Nat, vk_R RX6 83 "tekpdc" a s ∧ vk_S 1 [6] [gtxt] (fun _ => a) (fun _ => b) A s s.heap := by
  obtain ⟨adK, adV, h1, h2⟩ := vk_Sof (N := 1) (tm := fun _ => .string RX6 83) (len := [6]) (byt := [gtxt]) (A := A) (fun i hi => by
    obtain rfl : i = 0 := by omega
    decide) (fun i hi => hq _ (by decide +kernel)) (fun i hi => hq _ (by decide +kernel)) (fun i hi => hq _ (by decide +kernel)) (fun i hi => by
    obtain rfl : i = 0 := by omega
    exact hq _ (by decide +kernel)) (fun i hi j hj => by
    obtain rfl : i = 0 := by omega
    match j, hj with
    | 0, _ => exact hq _ (by decide +kernel)
    | 1, _ => exact hq _ (by decide +kernel)
    | 2, _ => exact hq _ (by decide +kernel)
    | 3, _ => exact hq _ (by decide +kernel)
    | 4, _ => exact hq _ (by decide +kernel)
    | 5, _ => exact hq _ (by decide +kernel)
    | j + 6, hj => exact absurd hj (by simp)) (fun i j hi hj hij => absurd (by omega : i = j) hij) hA
  refine ⟨adK 0, adV 0, vk_R.of (hts _ x_567) (h2 0 (by decide)), ⟨fun i hi => ?_, fun i j hi hj _ => by omega⟩⟩
  obtain rfl : i = 0 := by omega
  exact h1.1 0 (by decide)
def R_law : String := "TwoAgreeLaw"
def lw_P (b : Addr) (xs : List Int32) (args : Array Value) (s : State) : Prop := args = #[.ref b] ∧ s.IntsAt b xs ∧ xs.length ≤ 3072 ∧ (Jvm.Cond.and given_1 narrow_1).before args s = true
/-- what holds at the law's entry: the machine, the code, the tables' words (any of lw_tbl by 'hts w (by decide +kernel)'), the script of L ints xs at the cell b, what the Statement gives of the start (any of its parts by flat_of_before) -/
def lw_At (p : Program) (s : State) (m : MethodId) (meth : Method) (c : Code) (b L : Nat) (xs : Nat → Int32) : Prop :=
  p.tables.exec = Jvm.exec ∧ c.code = code ∧ meth.sig.returnType = ret ∧ c.maxLocals = 4 ∧ s.vm.findClass R_law = some m.cls ∧ (∀ w ∈ lw_tbl, w.before #[Value.ref b] s = true) ∧ va_X b L xs s s.heap ∧ b < s.heap.size ∧ meth.locks = false ∧ (Jvm.Cond.and given_1 narrow_1).before #[Value.ref b] s = true
def gok (n : Nat) (s : gSh) : Bool := match s with
  | .inl o => o.2.all (fun x => match x with
    | none => true
    | some j => decide (j < n))
  | .inr (.inr (.inr js)) => js.all (fun j => decide (j < n))
  | _ => true
theorem gF_ext {ad ad' : Nat → Nat} {f f' : Nat → Int32} (n : Nat) (h : ∀ j, j < n → ad j = ad' j) (hf : f = f') : ∀ (fs : List (Option Nat)) (k : Nat), (fs.all (fun x => match x with
    | none => true
    | some j => decide (j < n)) = true) → gF ad f k fs = gF ad' f' k fs
  | [], _, _ => rfl
  | none :: r, k, hk => by
    simp only [List.all_cons, Bool.true_and] at hk
    subst hf
    simp only [gF, gF_ext n h rfl r (k + 1) hk]
  | some j :: r, k, hk => by
    simp only [List.all_cons, Bool.and_eq_true, decide_eq_true_eq] at hk
    simp only [gF, gF_ext n h hf r (k + 1) hk.2, h j hk.1]
theorem gL_ext {ad ad' : Nat → Nat} {cA cA' : Nat → ClassId} {σ σ' : gS} (n : Nat) (h : ∀ j, j < n → ad j = ad' j ∧ cA j = cA' j ∧ σ.1 j = σ'.1 j ∧ σ.2 j = σ'.2 j) : ∀ (l : List gSh) (c : Nat), c + l.length ≤ n → (l.all (gok n) = true) → gL ad cA σ c l = gL ad' cA' σ' c l
  | [], _, _, _ => rfl
  | s :: r, c, hc, hk => by
    simp only [List.all_cons, Bool.and_eq_true] at hk
    simp only [List.length_cons] at hc
    obtain ⟨h1, h2, h3, h4⟩ := h c (by omega)
    have hE : gE ad cA σ c s = gE ad' cA' σ' c s := by
      rcases s with o | m | m | js
      · show (Sum.inr (o.1, gF ad (σ.1 c) 0 o.2) : va_E) = Sum.inr (o.1, gF ad' (σ'.1 c) 0 o.2)
        rw [gF_ext n (fun j hj => (h j hj).1) h3 o.2 0 hk.1]
      · simp only [gE, h2, h3]
      · simp only [gE, h2, h4]
      · have hj : (fun i : Nat => (js[i]?).map ad) = fun i : Nat => (js[i]?).map ad' := by
          funext i
          cases hi : js[i]? with
          | none => rfl
          | some j =>
            have hm := List.mem_of_getElem? hi
            have := List.all_eq_true.mp hk.1 j hm
            simp only [decide_eq_true_eq] at this
            show some (ad j) = some (ad' j)
            rw [(h j this).1]
        simp only [gE, h2, hj]
    simp only [gL, hE, h1, gL_ext n h r (c + 1) (by omega) hk.2]
theorem gL_addr (ad : Nat → Nat) (cA : Nat → ClassId) (σ τ : gS) : ∀ (l : List gSh) (c : Nat), (gL ad cA σ c l).map (fun q => q.1) = (gL ad cA τ c l).map (fun q => q.1)
  | [], _ => rfl
  | a :: r, c => by simp only [gL, List.map_cons, gL_addr ad cA σ τ r (c + 1)]
theorem gws_apart {ad : Nat → Nat} {cA : Nat → ClassId} {A : Nat → Prop} {σ τ : gS} (h : va_D A (gws ad cA σ)) : va_D A (gws ad cA τ) := by
  have e := gL_addr ad cA τ σ gsh 0
  have hg : ∀ (i : Nat) (p : Nat × va_E), (gws ad cA τ)[i]? = some p → ∃ p2, (gws ad cA σ)[i]? = some p2 ∧ p2.1 = p.1 := by
    intro i p hp
    have h1 : ((gws ad cA τ).map (fun q => q.1))[i]? = some p.1 := by rw [List.getElem?_map, hp]; rfl
    have h2 : ((gws ad cA σ).map (fun q => q.1))[i]? = some p.1 := by
      rw [← h1]
      exact congrArg (fun z : List Nat => z[i]?) e.symm
    rw [List.getElem?_map] at h2
    obtain ⟨p2, q1, q2⟩ := Option.map_eq_some_iff.mp h2
    exact ⟨p2, q1, q2⟩
  refine ⟨fun i j p q h1 h2 h3 => ?_, fun k q h1 => ?_⟩
  · obtain ⟨p2, a1, a2⟩ := hg i p h1
    obtain ⟨q2, b1, b2⟩ := hg j q h2
    exact h.1 i j p2 q2 a1 b1 (by rw [a2, b2, h3])
  · obtain ⟨q2, b1, b2⟩ := hg k q h1
    rw [← b2]
    exact h.2 k q2 b1
set_option maxHeartbeats 4000000 in
set_option maxRecDepth 100000 in
theorem whole_start {p : Program} {e : Env} {s : State} {m : MethodId} {below : List Frame} {meth : Method} {c : Code} (l : Launch) (hflags : l.flags = flags0) {b L : Nat} {xs : Nat → Int32} (hL : L ≤ 3072) (C0 : lw_At p s m meth c b L xs) : W p l e room_1 s m #[Value.ref b] below meth c s.heap [] 0 0 (lw_Z below #[Value.ref b] s) (entryFrame m ([Value.ref b] : List Value).toArray 4) := by
  obtain ⟨hx, hb, hr, hml, hown, hts, hX, hbl, hlocks, hgv⟩ := id C0
  have hg : ∀ w ∈ gtb, w.before #[Value.ref b] s = true := fun w hw => hts w (List.mem_filter.mp hw).1
  have hq := flat_of_before _ hgv
  obtain ⟨A, hAdef⟩ : ∃ A : Nat → Prop, A = fun q : Nat => s.heap.size ≤ q := ⟨_, rfl⟩
  have hA : ∀ q : Nat, s.heap.size ≤ q → A q := fun q h => by rw [hAdef]; exact h
  have hA2 : ∀ q : Nat, A q → s.heap.size ≤ q := fun q h => by rw [hAdef] at h; exact h
  have hAn : ∀ a : Nat, a < s.heap.size → ¬ A a := fun a h1 h2 => Nat.not_lt.mpr (hA2 a h2) h1
  obtain ⟨tL, zL, vL⟩ := tab_LEAST hts hq hAn
  obtain ⟨tM, zM, vM⟩ := tab_MOST hts hq hAn
  obtain ⟨tA, zA, vA⟩ := tab_ABOVE hts hq hAn
  obtain ⟨tO, zO, vO⟩ := tab_OWN hts hq hAn
  obtain ⟨sK, sV, hR0, hS0⟩ := str_tk hts hq hAn
  have zC : va_Z "java/lang/String" "COMPACT_STRINGS" "Z" (.int 1) A s s.heap := va_Zof (hts _ x_581) (hts _ x_89) (va_eqt (hq _ (by decide +kernel))) hAn
  obtain ⟨dC, dI, hKc0⟩ := known_of hg
  have hN : gN s := ⟨fun w hw => by
    obtain ⟨a, i, x, h', rfl⟩ := gX_nest hw
    exact va_Nw.of rfl (hts _ (gnest_in _ hw)), va_AO.of (hts _ gao_in)⟩
  have hS : va_S A s.heap s.heap [] := va_S.rf
  have hK : va_K (dC, dI) gcl [] s := ⟨hKc0, fun k q h => by simp at h⟩
  have hP : va_P (dC, dI) gcl [] s.heap := fun k q h => by simp at h
  have hD : va_D A [] := ⟨fun i j p q h => by simp at h, fun k q h => by simp at h⟩
  have hl := lv_entry ([.ref b]) (n := 4) (Nat.le_of_ble_eq_true rfl)
  rw [lg_entry_eq]
  generalize (lg_sl ([.ref b]) ++ List.replicate (4 - (lg_sl ([.ref b])).length) Slot.unset).toArray = ls at hl ⊢
  have hl : lv_has ls 4 [(0, .ref b)] := hl
  refine va_new (ci := 10) (fs := [.null, .null, .null, .null, .null, .null, .null, .null, .null]) (C := RX10) (T := TX10) (N := 9) hx hb hg uw_10 tyX10 tyX10_ok hown (hg _ w_97) (hg _ w_98) (hg _ w_76) hK hP hD hS hA rfl df_10 (Nat.le_of_ble_eq_true rfl) (Nat.le_of_ble_eq_true rfl) d_law_0 (fun q10 H hP hD hS => ?_)
  refine lv_dup hx hb d_law_3 rfl ?_
  have hPc := hP.sub (ws' := [(q10, .inr (10, [.null, .null, .null, .null, .null, .null, .null, .null, .null]))]) [0] rfl
  have hDc := hD.sub (ws' := [(q10, .inr (10, [.null, .null, .null, .null, .null, .null, .null, .null, .null]))]) [0] rfl rfl
  have hKc := hK.sub (tys' := []) [] rfl
  have hFc := va_free (wc := [(q10, .inr (10, [.null, .null, .null, .null, .null, .null, .null, .null, .null]))]) hD hS hA [0] rfl
  refine va_callv (va_runI (As := []) (rest := [.ref q10]) ⟨hx, hb, hml, hown, hg⟩ (k_T_new l (dC, dI) q10 H.size) (cwI 0 hg (gt_good w_101) rfl rfl rfl (hg _ w_76) (hg _ w_99) (hg _ w_100) rfl (by decide +kernel) ⟨Nat.le_of_ble_eq_true rfl, Nat.le_of_ble_eq_true rfl⟩) ⟨fun a U g mk z => by obtain ⟨z0, z1, zP, zK, zD, zN⟩ := z; exact ⟨z0, z1, zP, va_K.moved (u := U) (U := U.calling g mk a) (Vm.Alike.refl U.vm) zK, zD, gN.blind (U := U) (V := U.calling g mk a) rfl zN⟩, fun U hU hW => ⟨rfl, by rw [hU], by rw [hU]; exact hPc, va_K.moved hW.alike hKc, hDc.weaken (fun _ _ _ _ => trivial), hN.to hW⟩⟩ rfl rfl hl.1 rfl (lv_room (Nat.le_of_ble_eq_true rfl)) d_law_4 ⟨Nat.le_of_ble_eq_true rfl, Nat.le_of_ble_eq_true rfl⟩) hS (fun q _ h => hFc q h) hFc (fun u t H1 locs ht hvm _ hB hz1 hk1 hS => ?_)
  obtain ⟨w10, t10, ⟨ad10, ca10, e10, hw10, ht10⟩, hP1, hK1, hD1⟩ := hB
  rw [ht] at hP1
  have hK1 := va_K.moved hvm.symm hK1
  obtain ⟨hP, hD⟩ := n_join hP hD hk1 hFc hP1 hD1
  have hK := hK.app hK1
  refine lv_astore_n (lv' := [(1, .ref q10), (0, .ref b)]) hx hb d_law_7 rfl hl (by decide) rfl (fun ls hl => ?_)
  have hlw : w10.length = 59 := by rw [hw10]; rfl
  have hP : va_P (dC, dI) gcl w10 H1 := hP
  have hD : va_D A w10 := hD
  have hK : va_K (dC, dI) gcl t10 s := hK
  refine va_new (ci := 11) (fs := [.null, .null, .null, .null, .int 0, .int 0, .int 0, .null, .int 0, .null, .int 0, .int 0, .int 0, .int 0, .int 0, .int 0, .null, .null, .null, .null, .null, .int 0, .int 0, .null, .int 0, .int 0, .int 0, .int 0, .null, .null, .int 0, .null, .null, .int 0, .int 0, .int 0, .null, .null, .null, .null]) (C := RX11) (T := TX11) (N := 40) hx hb hg uw_11 tyX11 tyX11_ok hown (hg _ w_1129) (hg _ w_1130) (hg _ w_87) hK hP hD hS hA rfl df_11 (Nat.le_of_ble_eq_true rfl) (Nat.le_of_ble_eq_true rfl) d_law_8 (fun q11 H hP hD hS => ?_)
  refine lv_dup hx hb d_law_11 rfl ?_
  have hPc := hP.sub (ws' := [(q11, .inr (11, [.null, .null, .null, .null, .int 0, .int 0, .int 0, .null, .int 0, .null, .int 0, .int 0, .int 0, .int 0, .int 0, .int 0, .null, .null, .null, .null, .null, .int 0, .int 0, .null, .int 0, .int 0, .int 0, .int 0, .null, .null, .int 0, .null, .null, .int 0, .int 0, .int 0, .null, .null, .null, .null]))]) [59] (by rw [hw10]; rfl)
  have hDc := hD.sub (ws' := [(q11, .inr (11, [.null, .null, .null, .null, .int 0, .int 0, .int 0, .null, .int 0, .null, .int 0, .int 0, .int 0, .int 0, .int 0, .int 0, .null, .null, .null, .null, .null, .int 0, .int 0, .null, .int 0, .int 0, .int 0, .int 0, .null, .null, .int 0, .null, .null, .int 0, .int 0, .int 0, .null, .null, .null, .null]))]) [59] rfl (by rw [hw10]; rfl)
  have hKc := hK.sub (tys' := []) [] rfl
  have hFc := va_free (wc := [(q11, .inr (11, [.null, .null, .null, .null, .int 0, .int 0, .int 0, .null, .int 0, .null, .int 0, .int 0, .int 0, .int 0, .int 0, .int 0, .null, .null, .null, .null, .null, .int 0, .int 0, .null, .int 0, .int 0, .int 0, .int 0, .null, .null, .int 0, .null, .null, .int 0, .int 0, .int 0, .null, .null, .null, .null]))]) hD hS hA [59] (by rw [hw10]; rfl)
  refine va_callv (va_runI (As := []) (rest := [.ref q11]) ⟨hx, hb, hml, hown, hg⟩ (k_M_new l (dC, dI) q11 H.size) (cwI 0 hg (gt_good w_1133) rfl rfl rfl (hg _ w_87) (hg _ w_1131) (hg _ w_1132) rfl (by decide +kernel) ⟨Nat.le_of_ble_eq_true rfl, Nat.le_of_ble_eq_true rfl⟩) ⟨fun a U g mk z => by obtain ⟨z0, z1, zP, zK, zD, zN⟩ := z; exact ⟨z0, z1, zP, va_K.moved (u := U) (U := U.calling g mk a) (Vm.Alike.refl U.vm) zK, zD, gN.blind (U := U) (V := U.calling g mk a) rfl zN⟩, fun U hU hW => ⟨rfl, by rw [hU], by rw [hU]; exact hPc, va_K.moved hW.alike hKc, hDc.weaken (fun _ _ _ _ => trivial), hN.to hW⟩⟩ rfl rfl hl.1 rfl (lv_room (Nat.le_of_ble_eq_true rfl)) d_law_12 ⟨Nat.le_of_ble_eq_true rfl, Nat.le_of_ble_eq_true rfl⟩) hS (fun q _ h => hFc q h) hFc (fun u t H1 locs ht hvm _ hB hz1 hk1 hS => ?_)
  obtain ⟨w11, t11, ⟨ad11, ca11, e11, hw11, ht11⟩, hP1, hK1, hD1⟩ := hB
  rw [ht] at hP1
  have hK1 := va_K.moved hvm.symm hK1
  obtain ⟨hP, hD⟩ := n_join hP hD hk1 hFc hP1 hD1
  have hK := hK.app hK1
  refine lv_astore_n (lv' := [(2, .ref q11), (1, .ref q10), (0, .ref b)]) hx hb d_law_15 rfl hl (by decide) rfl (fun ls hl => ?_)
  refine lv_iconst (v := 0) hx hb d_law_16 (by decide) ?_
  refine lv_istore_n (lv' := [(3, .int 0), (2, .ref q11), (1, .ref q10), (0, .ref b)]) hx hb d_law_17 rfl hl (by decide) rfl (fun ls hl => ?_)
  refine W.widen (k := 600000) (n := 7302250) (Nat.le_of_ble_eq_true rfl) (Nat.le_of_ble_eq_true rfl) ?_
  obtain ⟨ad, had⟩ : ∃ ad : Nat → Nat, ad = fun c => if c < 59 then ad10 c else if c < 80 then ad11 (c - 59) else if c = 1000 then tL else if c = 1001 then tM else if c = 1002 then tA else if c = 1003 then tO else if c = 1004 then sK else if c = 1005 then sV else b := ⟨_, rfl⟩
  obtain ⟨cA, hcA⟩ : ∃ cA : Nat → ClassId, cA = fun c => if c < 59 then ca10 c else ca11 (c - 59) := ⟨_, rfl⟩
  have hws : w10 ++ w11 = gws ad cA gs0 := by
    have h1 : gL ad10 ca10 gz 0 sh_10 = gL ad cA gs0 0 sh_10 := gL_ext (σ := gz) (σ' := gs0) (ad := ad10) (ad' := ad) (cA := ca10) (cA' := cA) 59 (fun j hj => ⟨by rw [had]; exact (if_pos hj).symm, by rw [hcA]; exact (if_pos hj).symm, show _ = (if j < 59 then (fun _ => 0 : Nat → Int32) else gzm.1 (j - 59)) from (if_pos hj).symm, rfl⟩) sh_10 0 (by decide) (by decide +kernel)
    rw [hw10, hw11, h1]
    have h2 : gL ad11 ca11 gzm 0 sh_11 = gL ad cA gs0 59 (gsh.drop 59) := by
      rw [had, hcA]
      rfl
    rw [h2]
    rfl
  have hty : t10 ++ t11 = gty cA := by
    rw [ht10, ht11, hcA]
    rfl
  rw [hws] at hP hD
  rw [hty] at hK
  have a0 : ad 0 = q10 := by rw [had, ← e10]; rfl
  have a59 : ad 59 = q11 := by rw [had, ← e11]; rfl
  have a2 : ad 2000 = b := by rw [had]; rfl
  refine s_law_L18 L xs gfu 0 gs0 (law_true hL) ad cA (dC, dI) A p l e s m b below meth c _ _ ls ⟨⟨hx, hb, hml, hr, hlocks, hown, hg, hK, fun τ => gws_apart hD, ?_⟩, hX, hbl, hAn b hbl, a2, hA2⟩ hP hS ⟨hl.1, hl.2.1, fun i v hi => ?_⟩
  · refine ⟨hN.1, fun q hq2 => ?_, zC, ?_, ?_⟩
    · rcases List.mem_cons.mp hq2 with rfl | hq2
      · rw [had]
        exact ⟨zL, vL⟩
      rcases List.mem_cons.mp hq2 with rfl | hq2
      · rw [had]
        exact ⟨zM, vM⟩
      rcases List.mem_cons.mp hq2 with rfl | hq2
      · rw [had]
        exact ⟨zA, vA⟩
      rcases List.mem_cons.mp hq2 with rfl | hq2
      · rw [had]
        exact ⟨zO, vO⟩
      cases hq2
    · rw [had]
      exact hR0
    · rw [had]
      exact hS0
  · match i, hi with
    | 0, hi =>
      cases hi
      show ls[0]? = some (.val (.ref (ad 2000)))
      rw [a2]
      exact lv_at hl 3 rfl
    | 1, hi =>
      cases hi
      show ls[1]? = some (.val (.ref (ad 0)))
      rw [a0]
      exact lv_at hl 2 rfl
    | 2, hi =>
      cases hi
      show ls[2]? = some (.val (.ref (ad 59)))
      rw [a59]
      exact lv_at hl 1 rfl
    | 3, hi =>
      cases hi
      exact lv_at hl 0 rfl
    | i + 4, hi => simp at hi
set_option maxHeartbeats 4000000 in
theorem lw_walk (l : Launch) (hflags : l.flags = flags0) (b : Addr) (xs : List Int32) : MetFree l x (headSpec (Jvm.Cond.code x code maxLocals ret :: tables_1) room_1) (lw_P b xs) (fun _ _ _ _ _ => True) lw_Q := by
  refine MetFree.of_bodyS (code := code) (maxLocals := maxLocals) (ret := ret) (by decide) ?_ ?_
  · intro args s m h hn
    obtain ⟨meth, c, h1, h2, h3, h4, h5, h6, -, -⟩ := Cond.code_spec hn (atoms_spec (ws := Jvm.Cond.code x code maxLocals ret :: tables_1) h _ List.mem_cons_self)
    exact ⟨meth, c, h1, h2, h3, h4, h5, h6⟩
  · intro p e s m args below meth c s₁ B hml0 hP _
    obtain ⟨rfl, hx, hbd, hgv⟩ := hP
    obtain ⟨scr, harrAt, hlist, hof, hsmall⟩ := hx
    obtain ⟨hcb, hkn, -, -⟩ := State.arrayAt?_spec harrAt
    have hown : s.vm.findClass R_law = some m.cls := findClass_of_methodNamed B.named
    have hts0 : ∀ c ∈ (Jvm.Cond.code x code maxLocals ret :: tables_1), c.before #[Value.ref b] s = true := atoms_spec (ws := Jvm.Cond.code x code maxLocals ret :: tables_1) B.pre
    have hts : ∀ w ∈ lw_tbl, w.before #[Value.ref b] s = true := k2_hts_sels lw_privs (fun w hw => hts0 w (List.mem_cons_of_mem _ hw)) lw_privs_ok
    have hml : c.maxLocals = 4 := B.maxLocals_eq (hts0 _ List.mem_cons_self)
    have X₀ : Stand p l e room_1 s m #[Value.ref b] below meth c s₁ [] 0 0 := Stand.of_body B
    have hh0 : s₁.heap = s.heap := by rw [B.state]; rfl
    have hsz : scr.slots.size = xs.length := by rw [← Array.length_toList, hlist, List.length_map]
    have hval : ∀ j : Nat, j < xs.length → scr.slots[j]? = some (.int (xs.getD j 0)) := fun j hj => by
      rw [← Array.getElem?_toList, hlist]
      simp [hj]
    have hbl : b < s.heap.size := (Array.getElem?_eq_some_iff.mp hcb).1
    have hX : va_X b xs.length (fun j => xs.getD j 0) s s.heap := ⟨scr, hcb, hof, hkn, hsz, hval⟩
    have K : W p l e room_1 s m #[Value.ref b] below meth c s₁.heap [] 0 0 (lw_Z below #[Value.ref b] s) (entryFrame m ([Value.ref b] : List Value).toArray 4) := by
      rw [hh0]
      exact whole_start l hflags hbd ⟨B.exec, B.bytes, B.returns, hml, hown, hts, hX, hbl, B.notSynchronized, hgv⟩
    obtain ⟨t, a1, o, b1, b2, b3⟩ := K s₁ rfl X₀
    exact ⟨t, o, a1, b1, b2, b3⟩
theorem lw_pre_spec {args : Array Value} {s : State} (h : (Jvm.Cond.and given_1 narrow_1).before args s = true) (hr : rest_1_c.before args s = true) : ∃ (b : Addr) (xs : List Int32), lw_P b xs args s := by
  have hs := flat_of_before _ h
  have hq := flat_of_before _ hr
  have hc : (Cond.count 1).before args s = true := hs _ (by decide +kernel)
  have harr : (Cond.arrayOf (.arg 0) .int).before args s = true := hs _ (by decide +kernel)
  have hle : (Cond.le (.length (.arg 0)) (.int 3072)).before args s = true := hs _ (by decide +kernel)
  have hlen : (Cond.isInt (.length (.arg 0))).before args s = true := hq _ (by decide +kernel)
  have hall : (Cond.all (.arg 0) (.isInt (.elem (.arg 0) (.index 0)))).before args s = true := hq _ (by decide +kernel)
  obtain ⟨b, xs, hb, hx⟩ := State.ints_of_pre rfl harr hlen hall
  have hsm : xs.length < 2 ^ 31 := hx.choose_spec.2.2.2
  have hev : (Term.length (.arg 0)).eval args s none [] s = some (.int xs.length.toInt32) := hx.length_eval hb
  have hv := Cond.le_ints hev (show (Term.int 3072).eval args s none [] s = some (.int 3072) from rfl)
  have hd : xs.length.toInt32 ≤ 3072 := by
    simpa [Cond.before, Cond.holds, hv] using hle
  have hN : xs.length ≤ 3072 := (Int32.ofNat_le_ofNat hsm (by decide)).mp (show Int32.ofNat xs.length ≤ Int32.ofNat 3072 from hd)
  exact ⟨b, xs, Cond.one_arg hc (show args[0]? = some (.ref b) from hb), hx, hN, h⟩
theorem lw_comes (l : Launch) (hflags : l.flags = flags0) : Comes l x (Jvm.Cond.code x code maxLocals ret :: tables_1) room_1 (fun tb e args s => Calls_1 tb e args s ∧ rest_1 tb e args s ∧ Pre_1 tb e args s)
    (fun _ _ args s o t => lw_Q args s o t) := by
  intro p e ha hc hk s m args below hf hfit hheap happ hpre
  obtain ⟨b, xs, hP⟩ := lw_pre_spec hpre.2.2 hpre.2.1
  obtain ⟨k, o, h1, h2, h3, hQ⟩ := lw_walk l hflags b xs p e ha hc hk s m args below hf ((Spec.applies_iff_loose hf).mp happ).1 hP trivial
  exact ⟨k, o, h1, h2, h3, hQ⟩
theorem lw_frame {s t : State} {o : Outcome} {args : Array Value} (h : Framed s o t [] 600000 7302250) :
    Framed s o t (fieldLocs frame_1_writes args s ++ arrayLocs frame_1_arrays args s ++ staticLocs frame_1_statics s) 600000 7302250 := h
theorem lw_limb (L : Cond) (hL : ∀ (args : Array Value) (s t : State), L.after args s (.returned (some (.int 1))) t = true) :
    ArmFor flags0 classFile x code maxLocals ret World_1 tables_1 room_1 Calls_1 rest_1 Pre_1
      (fun tb e a s o t => postC L tb e a s o t ∧ Framed s o t (fieldLocs frame_1_writes a s ++ arrayLocs frame_1_arrays a s ++ staticLocs frame_1_statics s) 600000 7302250) := by
  intro l hflags _ _ p e ha hc hk s m args below hf hfit hheap happ hpre
  obtain ⟨k, o, h1, h2, h3, rfl, hF⟩ := lw_comes l hflags p e ha hc hk s m args below hf hfit hheap happ hpre
  exact ⟨k, _, h1, h2, h3, hL args s _, lw_frame hF⟩
theorem i_vc : Claimed_1_1 ∧ Claimed_1_2 := ⟨lw_limb limb_1_1 (fun args s t => by simp [limb_1_1, Cond.after, Cond.holds, Cond.value]), lw_limb limb_1_2 (fun args s t => Cond.after_iff.mpr (by
  first | (rw [show limb_1_2 = Cond.eq .result (.int 1) from rfl, Cond.eq_ints (x := 1) (y := 1) rfl rfl]; simp; done) | (simp [limb_1_2, Cond.value, Term.eval]; done)))⟩

