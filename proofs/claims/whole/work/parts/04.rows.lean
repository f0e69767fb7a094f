/-! rows over G: locals -/
def gPr (ad : Nat → Nat) (L : List (Option Value)) : List (Nat × Value) := (List.range L.length).filterMap (fun i => match L[i]? with
  | some (some v) => some (i, gtr ad v)
  | _ => none)
theorem gPr_mem {ad : Nat → Nat} {L : List (Option Value)} {i : Nat} {v : Value} (h : L[i]? = some (some v)) : (i, gtr ad v) ∈ gPr ad L := by
  refine List.mem_filterMap.mpr ⟨i, List.mem_range.mpr (List.getElem?_eq_some_iff.mp h).1, ?_⟩
  rw [h]
theorem gPr_of {ad : Nat → Nat} {L : List (Option Value)} {q : Nat × Value} (h : q ∈ gPr ad L) : ∃ v, L[q.1]? = some (some v) ∧ q.2 = gtr ad v := by
  obtain ⟨i, -, h2⟩ := List.mem_filterMap.mp h
  split at h2
  · rename_i v hv
    cases h2
    exact ⟨v, hv, rfl⟩
  · cases h2
theorem gLs_has {ad : Nat → Nat} {nL : Nat} {L : List (Option Value)} {ls : Array Slot} (h : gLs ad nL L ls) : lv_has ls nL (gPr ad L) := by
  refine ⟨h.1, h.2.1, fun q hq => ?_⟩
  obtain ⟨v, h1, h2⟩ := gPr_of hq
  rw [h2]
  exact h.2.2 _ _ h1
/-- a slot ahead that holds a value of two words loses it -/
def gcut (i : Nat) (L : List (Option Value)) : List (Option Value) := match i with
  | 0 => L
  | j + 1 => match L[j]? with
    | some (some w) => if w.category = 2 then L.set j none else L
    | _ => L
def gput1 (i : Nat) (v : Value) (L : List (Option Value)) : List (Option Value) := (gcut i L).set i (some v)
def gput2 (i : Nat) (v : Value) (L : List (Option Value)) : List (Option Value) := ((gcut i L).set i (some v)).set (i + 1) none
theorem gcut_get {i : Nat} {L : List (Option Value)} {j : Nat} {w : Value} (h : (gcut i L)[j]? = some (some w)) : L[j]? = some (some w) ∧ ¬ (j + 1 = i ∧ w.category = 2) := by
  cases i with
  | zero => exact ⟨h, fun q => by omega⟩
  | succ k =>
    unfold gcut at h
    dsimp only at h
    cases hk : L[k]? with
    | none =>
      rw [hk] at h
      refine ⟨h, fun q => ?_⟩
      have : j = k := by omega
      subst this
      rw [hk] at h
      cases h
    | some o =>
      rw [hk] at h
      cases o with
      | none =>
        refine ⟨h, fun q => ?_⟩
        have : j = k := by omega
        subst this
        rw [hk] at h
        cases h
      | some u =>
        dsimp only at h
        by_cases hu : u.category = 2
        · rw [if_pos hu] at h
          by_cases hj : j = k
          · subst hj
            rw [List.getElem?_set_self (List.getElem?_eq_some_iff.mp hk).1] at h
            cases h
          · rw [List.getElem?_set_ne (fun q => hj q.symm)] at h
            exact ⟨h, fun q => hj (by omega)⟩
        · rw [if_neg hu] at h
          refine ⟨h, fun q => ?_⟩
          have : j = k := by omega
          subst this
          rw [hk] at h
          cases h
          exact hu q.2
theorem gLs_put1 {ad : Nat → Nat} {nL i : Nat} {L : List (Option Value)} {ls ls2 : Array Slot} {v : Value} (h : gLs ad nL L ls) (h2 : lv_has ls2 nL ((i, gtr ad v) :: (gPr ad L).filter (fun q => !(q.1 == i) && !(q.1 + 1 == i && q.2.category == 2)))) : gLs ad nL (gput1 i v L) ls2 := by
  refine ⟨h2.1, h2.2.1, fun j w hj => ?_⟩
  unfold gput1 at hj
  by_cases hji : j = i
  · subst hji
    have hl := (List.getElem?_eq_some_iff.mp hj).1
    rw [List.getElem?_set_self (by simpa using hl)] at hj
    cases hj
    exact h2.2.2 _ List.mem_cons_self
  · rw [List.getElem?_set_ne (fun q => hji q.symm)] at hj
    obtain ⟨h3, h4⟩ := gcut_get hj
    refine h2.2.2 (j, gtr ad w) (List.mem_cons_of_mem _ (List.mem_filter.mpr ⟨gPr_mem h3, ?_⟩))
    simp only [gtr_cat, Bool.and_eq_true, Bool.not_eq_true', beq_eq_false_iff_ne, ne_eq, Bool.and_eq_false_iff]
    refine ⟨hji, ?_⟩
    by_cases q1 : j + 1 = i
    · exact Or.inr (fun q2 => h4 ⟨q1, q2⟩)
    · exact Or.inl q1
theorem gLs_put2 {ad : Nat → Nat} {nL i : Nat} {L : List (Option Value)} {ls ls2 : Array Slot} {v : Value} (h : gLs ad nL L ls) (h2 : lv_has ls2 nL ((i, gtr ad v) :: (gPr ad L).filter (fun q => !(q.1 == i) && (!(q.1 == i + 1) && !(q.1 + 1 == i && q.2.category == 2))))) : gLs ad nL (gput2 i v L) ls2 := by
  refine ⟨h2.1, h2.2.1, fun j w hj => ?_⟩
  unfold gput2 at hj
  by_cases hj1 : j = i + 1
  · subst hj1
    have hl := (List.getElem?_eq_some_iff.mp hj).1
    rw [List.getElem?_set_self (by simpa using hl)] at hj
    cases hj
  · rw [List.getElem?_set_ne (fun q => hj1 q.symm)] at hj
    by_cases hji : j = i
    · subst hji
      have hl := (List.getElem?_eq_some_iff.mp hj).1
      rw [List.getElem?_set_self (by simpa using hl)] at hj
      cases hj
      exact h2.2.2 _ List.mem_cons_self
    · rw [List.getElem?_set_ne (fun q => hji q.symm)] at hj
      obtain ⟨h3, h4⟩ := gcut_get hj
      refine h2.2.2 (j, gtr ad w) (List.mem_cons_of_mem _ (List.mem_filter.mpr ⟨gPr_mem h3, ?_⟩))
      simp only [gtr_cat, Bool.and_eq_true, Bool.not_eq_true', beq_eq_false_iff_ne, ne_eq, Bool.and_eq_false_iff]
      refine ⟨hji, hj1, ?_⟩
      by_cases q1 : j + 1 = i
      · exact Or.inr (fun q2 => h4 ⟨q1, q2⟩)
      · exact Or.inl q1
section GRows
variable {M : gM} {d pc : Nat} {L L2 : List (Option Value)} {st : List Value} {σ : gS} {Q : Option Value → gS → Prop}
theorem g_iconst {n : Int} {v : Int32} (hd : decode M.2.1 pc = .ok (.iconst n, 1)) (hv : Int32.ofInt n = v) (k : G M d (pc + 1) L (.int v :: st) σ Q) : G M d pc L (st) σ Q := by
  intro ad cA D A p l e s m args below meth c H locs ls hC hP hS hl
  exact lv_iconst hC.1 hC.2.1 hd hv (k ad cA D A p l e s m args below meth c H locs ls hC hP hS hl)
theorem g_bipush {n : Int} {v : Int32} (hd : decode M.2.1 pc = .ok (.bipush n, 2)) (hv : (Int8.ofInt n).toInt32 = v) (k : G M d (pc + 2) L (.int v :: st) σ Q) : G M d pc L (st) σ Q := by
  intro ad cA D A p l e s m args below meth c H locs ls hC hP hS hl
  exact lv_bipush hC.1 hC.2.1 hd hv (k ad cA D A p l e s m args below meth c H locs ls hC hP hS hl)
theorem g_sipush {n : Int} {v : Int32} (hd : decode M.2.1 pc = .ok (.sipush n, 3)) (hv : (Int16.ofInt n).toInt32 = v) (k : G M d (pc + 3) L (.int v :: st) σ Q) : G M d pc L (st) σ Q := by
  intro ad cA D A p l e s m args below meth c H locs ls hC hP hS hl
  exact lv_sipush hC.1 hC.2.1 hd hv (k ad cA D A p l e s m args below meth c H locs ls hC hP hS hl)
theorem g_lconst {n : Fin 2} {v : Int64} (hd : decode M.2.1 pc = .ok (.lconst n, 1)) (hv : Int64.ofNat (n : Nat) = v) (k : G M d (pc + 1) L (.long v :: st) σ Q) : G M d pc L (st) σ Q := by
  intro ad cA D A p l e s m args below meth c H locs ls hC hP hS hl
  exact lv_lconst hC.1 hC.2.1 hd hv (k ad cA D A p l e s m args below meth c H locs ls hC hP hS hl)
theorem g_ldc {i : Nat} {v : Int32} (hd : decode M.2.1 pc = .ok (.ldc i, 2)) (hv : Cond.constant M.1.cls i v ∈ gtb) (k : G M d (pc + 2) L (.int v :: st) σ Q) : G M d pc L (st) σ Q := by
  intro ad cA D A p l e s m args below meth c H locs ls hC hP hS hl
  exact lv_ldc hC.1 hC.2.1 hC.2.2.2.2.2.1 (hC.2.2.2.2.2.2.1 _ hv) hd (k ad cA D A p l e s m args below meth c H locs ls hC hP hS hl)
theorem g_ldcw {i : Nat} {v : Int32} (hd : decode M.2.1 pc = .ok (.ldc_w i, 3)) (hv : Cond.constant M.1.cls i v ∈ gtb) (k : G M d (pc + 3) L (.int v :: st) σ Q) : G M d pc L (st) σ Q := by
  intro ad cA D A p l e s m args below meth c H locs ls hC hP hS hl
  exact lv_ldcw hC.1 hC.2.1 hC.2.2.2.2.2.1 (hC.2.2.2.2.2.2.1 _ hv) hd (k ad cA D A p l e s m args below meth c H locs ls hC hP hS hl)
theorem g_ldc2 {i : Nat} {v : Int64} (hd : decode M.2.1 pc = .ok (.ldc2_w i, 3)) (hv : Cond.constantLong M.1.cls i v ∈ gtb) (k : G M d (pc + 3) L (.long v :: st) σ Q) : G M d pc L (st) σ Q := by
  intro ad cA D A p l e s m args below meth c H locs ls hC hP hS hl
  exact lv_ldc2 hC.1 hC.2.1 hC.2.2.2.2.2.1 (hC.2.2.2.2.2.2.1 _ hv) hd (k ad cA D A p l e s m args below meth c H locs ls hC hP hS hl)
theorem g_iload {i : Nat} {x : Int32} (hd : decode M.2.1 pc = .ok (.iload i, 2)) (hx : L[i]? = some (some (.int x))) (k : G M d (pc + 2) L (.int x :: st) σ Q) : G M d pc L (st) σ Q := by
  intro ad cA D A p l e s m args below meth c H locs ls hC hP hS hl
  exact lv_iload hC.1 hC.2.1 hd (hl.2.2 _ _ hx) (k ad cA D A p l e s m args below meth c H locs ls hC hP hS hl)
theorem g_iload_n {j : Fin 4} {x : Int32} (hd : decode M.2.1 pc = .ok (.iload_n j, 1)) (hx : L[(j : Nat)]? = some (some (.int x))) (k : G M d (pc + 1) L (.int x :: st) σ Q) : G M d pc L (st) σ Q := by
  intro ad cA D A p l e s m args below meth c H locs ls hC hP hS hl
  exact lv_iload_n hC.1 hC.2.1 hd rfl (hl.2.2 _ _ hx) (k ad cA D A p l e s m args below meth c H locs ls hC hP hS hl)
theorem g_lload {i : Nat} {x : Int64} (hd : decode M.2.1 pc = .ok (.lload i, 2)) (hx : L[i]? = some (some (.long x))) (k : G M d (pc + 2) L (.long x :: st) σ Q) : G M d pc L (st) σ Q := by
  intro ad cA D A p l e s m args below meth c H locs ls hC hP hS hl
  exact lv_lload hC.1 hC.2.1 hd (hl.2.2 _ _ hx) (k ad cA D A p l e s m args below meth c H locs ls hC hP hS hl)
theorem g_lload_n {j : Fin 4} {x : Int64} (hd : decode M.2.1 pc = .ok (.lload_n j, 1)) (hx : L[(j : Nat)]? = some (some (.long x))) (k : G M d (pc + 1) L (.long x :: st) σ Q) : G M d pc L (st) σ Q := by
  intro ad cA D A p l e s m args below meth c H locs ls hC hP hS hl
  exact lv_lload_n hC.1 hC.2.1 hd rfl (hl.2.2 _ _ hx) (k ad cA D A p l e s m args below meth c H locs ls hC hP hS hl)
theorem g_aload {i : Nat} {x : Nat} (hd : decode M.2.1 pc = .ok (.aload i, 2)) (hx : L[i]? = some (some (.ref x))) (k : G M d (pc + 2) L (.ref x :: st) σ Q) : G M d pc L (st) σ Q := by
  intro ad cA D A p l e s m args below meth c H locs ls hC hP hS hl
  exact lv_aload hC.1 hC.2.1 hd (hl.2.2 _ _ hx) (k ad cA D A p l e s m args below meth c H locs ls hC hP hS hl)
theorem g_aload_n {j : Fin 4} {x : Nat} (hd : decode M.2.1 pc = .ok (.aload_n j, 1)) (hx : L[(j : Nat)]? = some (some (.ref x))) (k : G M d (pc + 1) L (.ref x :: st) σ Q) : G M d pc L (st) σ Q := by
  intro ad cA D A p l e s m args below meth c H locs ls hC hP hS hl
  exact lv_aload_n hC.1 hC.2.1 hd rfl (hl.2.2 _ _ hx) (k ad cA D A p l e s m args below meth c H locs ls hC hP hS hl)
theorem g_istore {i : Nat} {x : Int32} (hd : decode M.2.1 pc = .ok (.istore i, 2)) (hn : i < M.2.2.1) (hL : gput1 i (.int x) L = L2) (k : G M d (pc + 2) L2 st σ Q) : G M d pc L (.int x :: st) σ Q := by
  intro ad cA D A p l e s m args below meth c H locs ls hC hP hS hl
  exact lv_istore hC.1 hC.2.1 hd (gLs_has hl) hn rfl (fun ls2 hl2 => k ad cA D A p l e s m args below meth c H locs ls2 hC hP hS (hL ▸ gLs_put1 (v := .int x) hl hl2))
theorem g_istore_n {j : Fin 4} {x : Int32} (hd : decode M.2.1 pc = .ok (.istore_n j, 1)) (hn : (j : Nat) < M.2.2.1) (hL : gput1 (j : Nat) (.int x) L = L2) (k : G M d (pc + 1) L2 st σ Q) : G M d pc L (.int x :: st) σ Q := by
  intro ad cA D A p l e s m args below meth c H locs ls hC hP hS hl
  exact lv_istore_n hC.1 hC.2.1 hd rfl (gLs_has hl) hn rfl (fun ls2 hl2 => k ad cA D A p l e s m args below meth c H locs ls2 hC hP hS (hL ▸ gLs_put1 (v := .int x) hl hl2))
theorem g_lstore {i : Nat} {x : Int64} (hd : decode M.2.1 pc = .ok (.lstore i, 2)) (hn : i + 1 < M.2.2.1) (hL : gput2 i (.long x) L = L2) (k : G M d (pc + 2) L2 st σ Q) : G M d pc L (.long x :: st) σ Q := by
  intro ad cA D A p l e s m args below meth c H locs ls hC hP hS hl
  exact lv_lstore hC.1 hC.2.1 hd (gLs_has hl) hn rfl (fun ls2 hl2 => k ad cA D A p l e s m args below meth c H locs ls2 hC hP hS (hL ▸ gLs_put2 (v := .long x) hl hl2))
theorem g_lstore_n {j : Fin 4} {x : Int64} (hd : decode M.2.1 pc = .ok (.lstore_n j, 1)) (hn : (j : Nat) + 1 < M.2.2.1) (hL : gput2 (j : Nat) (.long x) L = L2) (k : G M d (pc + 1) L2 st σ Q) : G M d pc L (.long x :: st) σ Q := by
  intro ad cA D A p l e s m args below meth c H locs ls hC hP hS hl
  exact lv_lstore_n hC.1 hC.2.1 hd rfl (gLs_has hl) hn rfl (fun ls2 hl2 => k ad cA D A p l e s m args below meth c H locs ls2 hC hP hS (hL ▸ gLs_put2 (v := .long x) hl hl2))
theorem g_astore {i : Nat} {x : Nat} (hd : decode M.2.1 pc = .ok (.astore i, 2)) (hn : i < M.2.2.1) (hL : gput1 i (.ref x) L = L2) (k : G M d (pc + 2) L2 st σ Q) : G M d pc L (.ref x :: st) σ Q := by
  intro ad cA D A p l e s m args below meth c H locs ls hC hP hS hl
  exact lv_astore hC.1 hC.2.1 hd (gLs_has hl) hn rfl (fun ls2 hl2 => k ad cA D A p l e s m args below meth c H locs ls2 hC hP hS (hL ▸ gLs_put1 (v := .ref x) hl hl2))
theorem g_astore_n {j : Fin 4} {x : Nat} (hd : decode M.2.1 pc = .ok (.astore_n j, 1)) (hn : (j : Nat) < M.2.2.1) (hL : gput1 (j : Nat) (.ref x) L = L2) (k : G M d (pc + 1) L2 st σ Q) : G M d pc L (.ref x :: st) σ Q := by
  intro ad cA D A p l e s m args below meth c H locs ls hC hP hS hl
  exact lv_astore_n hC.1 hC.2.1 hd rfl (gLs_has hl) hn rfl (fun ls2 hl2 => k ad cA D A p l e s m args below meth c H locs ls2 hC hP hS (hL ▸ gLs_put1 (v := .ref x) hl hl2))
theorem g_iinc {i : Nat} {n : Int} {x v : Int32} (hd : decode M.2.1 pc = .ok (.iinc i n, 3)) (hx : L[i]? = some (some (.int x))) (hv : x + Int32.ofInt n = v) (hn : i < M.2.2.1) (hL : gput1 i (.int v) L = L2) (k : G M d (pc + 3) L2 st σ Q) : G M d pc L st σ Q := by
  intro ad cA D A p l e s m args below meth c H locs ls hC hP hS hl
  obtain ⟨j, hj⟩ := List.getElem?_of_mem (gPr_mem (ad := ad) hx)
  exact lv_iinc hC.1 hC.2.1 hd (gLs_has hl) (k := j) hj hv hn rfl (fun ls2 hl2 => k ad cA D A p l e s m args below meth c H locs ls2 hC hP hS (hL ▸ gLs_put1 (v := .int v) hl hl2))
theorem g_iadd {x y : Int32} (hd : decode M.2.1 pc = .ok (.iadd, 1)) (k : G M d (pc + 1) L (.int (x + y) :: st) σ Q) : G M d pc L (.int y :: .int x :: st) σ Q := by
  intro ad cA D A p l e s m args below meth c H locs ls hC hP hS hl
  exact lv_iadd hC.1 hC.2.1 hd (k ad cA D A p l e s m args below meth c H locs ls hC hP hS hl)
theorem g_isub {x y : Int32} (hd : decode M.2.1 pc = .ok (.isub, 1)) (k : G M d (pc + 1) L (.int (x - y) :: st) σ Q) : G M d pc L (.int y :: .int x :: st) σ Q := by
  intro ad cA D A p l e s m args below meth c H locs ls hC hP hS hl
  exact lv_isub hC.1 hC.2.1 hd (k ad cA D A p l e s m args below meth c H locs ls hC hP hS hl)
theorem g_imul {x y : Int32} (hd : decode M.2.1 pc = .ok (.imul, 1)) (k : G M d (pc + 1) L (.int (x * y) :: st) σ Q) : G M d pc L (.int y :: .int x :: st) σ Q := by
  intro ad cA D A p l e s m args below meth c H locs ls hC hP hS hl
  exact lv_imul hC.1 hC.2.1 hd (k ad cA D A p l e s m args below meth c H locs ls hC hP hS hl)
theorem g_iand {x y : Int32} (hd : decode M.2.1 pc = .ok (.iand, 1)) (k : G M d (pc + 1) L (.int (x &&& y) :: st) σ Q) : G M d pc L (.int y :: .int x :: st) σ Q := by
  intro ad cA D A p l e s m args below meth c H locs ls hC hP hS hl
  exact lv_iand hC.1 hC.2.1 hd (k ad cA D A p l e s m args below meth c H locs ls hC hP hS hl)
theorem g_ior {x y : Int32} (hd : decode M.2.1 pc = .ok (.ior, 1)) (k : G M d (pc + 1) L (.int (x ||| y) :: st) σ Q) : G M d pc L (.int y :: .int x :: st) σ Q := by
  intro ad cA D A p l e s m args below meth c H locs ls hC hP hS hl
  exact lv_ior hC.1 hC.2.1 hd (k ad cA D A p l e s m args below meth c H locs ls hC hP hS hl)
theorem g_ixor {x y : Int32} (hd : decode M.2.1 pc = .ok (.ixor, 1)) (k : G M d (pc + 1) L (.int (x ^^^ y) :: st) σ Q) : G M d pc L (.int y :: .int x :: st) σ Q := by
  intro ad cA D A p l e s m args below meth c H locs ls hC hP hS hl
  exact lv_ixor hC.1 hC.2.1 hd (k ad cA D A p l e s m args below meth c H locs ls hC hP hS hl)
theorem g_ishl {x y : Int32} (hd : decode M.2.1 pc = .ok (.ishl, 1)) (k : G M d (pc + 1) L (.int (x <<< (y &&& 31)) :: st) σ Q) : G M d pc L (.int y :: .int x :: st) σ Q := by
  intro ad cA D A p l e s m args below meth c H locs ls hC hP hS hl
  exact lv_ishl hC.1 hC.2.1 hd (k ad cA D A p l e s m args below meth c H locs ls hC hP hS hl)
theorem g_ishr {x y : Int32} (hd : decode M.2.1 pc = .ok (.ishr, 1)) (k : G M d (pc + 1) L (.int (x >>> (y &&& 31)) :: st) σ Q) : G M d pc L (.int y :: .int x :: st) σ Q := by
  intro ad cA D A p l e s m args below meth c H locs ls hC hP hS hl
  exact lv_ishr hC.1 hC.2.1 hd (k ad cA D A p l e s m args below meth c H locs ls hC hP hS hl)
theorem g_idiv {x y : Int32} (hd : decode M.2.1 pc = .ok (.idiv, 1)) (h0 : ¬ y = 0) (k : G M d (pc + 1) L (.int (x / y) :: st) σ Q) : G M d pc L (.int y :: .int x :: st) σ Q := by
  intro ad cA D A p l e s m args below meth c H locs ls hC hP hS hl
  exact lv_idiv hC.1 hC.2.1 hd h0 (k ad cA D A p l e s m args below meth c H locs ls hC hP hS hl)
theorem g_irem {x y : Int32} (hd : decode M.2.1 pc = .ok (.irem, 1)) (h0 : ¬ y = 0) (k : G M d (pc + 1) L (.int (x - x / y * y) :: st) σ Q) : G M d pc L (.int y :: .int x :: st) σ Q := by
  intro ad cA D A p l e s m args below meth c H locs ls hC hP hS hl
  exact lv_irem hC.1 hC.2.1 hd h0 (k ad cA D A p l e s m args below meth c H locs ls hC hP hS hl)
theorem g_ladd {x y : Int64} (hd : decode M.2.1 pc = .ok (.ladd, 1)) (k : G M d (pc + 1) L (.long (x + y) :: st) σ Q) : G M d pc L (.long y :: .long x :: st) σ Q := by
  intro ad cA D A p l e s m args below meth c H locs ls hC hP hS hl
  exact lv_ladd hC.1 hC.2.1 hd (k ad cA D A p l e s m args below meth c H locs ls hC hP hS hl)
theorem g_lsub {x y : Int64} (hd : decode M.2.1 pc = .ok (.lsub, 1)) (k : G M d (pc + 1) L (.long (x - y) :: st) σ Q) : G M d pc L (.long y :: .long x :: st) σ Q := by
  intro ad cA D A p l e s m args below meth c H locs ls hC hP hS hl
  exact lv_lsub hC.1 hC.2.1 hd (k ad cA D A p l e s m args below meth c H locs ls hC hP hS hl)
theorem g_lmul {x y : Int64} (hd : decode M.2.1 pc = .ok (.lmul, 1)) (k : G M d (pc + 1) L (.long (x * y) :: st) σ Q) : G M d pc L (.long y :: .long x :: st) σ Q := by
  intro ad cA D A p l e s m args below meth c H locs ls hC hP hS hl
  exact lv_lmul hC.1 hC.2.1 hd (k ad cA D A p l e s m args below meth c H locs ls hC hP hS hl)
theorem g_land {x y : Int64} (hd : decode M.2.1 pc = .ok (.land, 1)) (k : G M d (pc + 1) L (.long (x &&& y) :: st) σ Q) : G M d pc L (.long y :: .long x :: st) σ Q := by
  intro ad cA D A p l e s m args below meth c H locs ls hC hP hS hl
  exact lv_land hC.1 hC.2.1 hd (k ad cA D A p l e s m args below meth c H locs ls hC hP hS hl)
theorem g_lor {x y : Int64} (hd : decode M.2.1 pc = .ok (.lor, 1)) (k : G M d (pc + 1) L (.long (x ||| y) :: st) σ Q) : G M d pc L (.long y :: .long x :: st) σ Q := by
  intro ad cA D A p l e s m args below meth c H locs ls hC hP hS hl
  exact lv_lor hC.1 hC.2.1 hd (k ad cA D A p l e s m args below meth c H locs ls hC hP hS hl)
theorem g_ldiv {x y : Int64} (hd : decode M.2.1 pc = .ok (.ldiv, 1)) (h0 : ¬ y = 0) (k : G M d (pc + 1) L (.long (x / y) :: st) σ Q) : G M d pc L (.long y :: .long x :: st) σ Q := by
  intro ad cA D A p l e s m args below meth c H locs ls hC hP hS hl
  exact lv_ldiv hC.1 hC.2.1 hd h0 (k ad cA D A p l e s m args below meth c H locs ls hC hP hS hl)
theorem g_lrem {x y : Int64} (hd : decode M.2.1 pc = .ok (.lrem, 1)) (h0 : ¬ y = 0) (k : G M d (pc + 1) L (.long (x - x / y * y) :: st) σ Q) : G M d pc L (.long y :: .long x :: st) σ Q := by
  intro ad cA D A p l e s m args below meth c H locs ls hC hP hS hl
  exact lv_lrem hC.1 hC.2.1 hd h0 (k ad cA D A p l e s m args below meth c H locs ls hC hP hS hl)
theorem g_ineg {x : Int32} (hd : decode M.2.1 pc = .ok (.ineg, 1)) (k : G M d (pc + 1) L (.int (-x) :: st) σ Q) : G M d pc L (.int x :: st) σ Q := by
  intro ad cA D A p l e s m args below meth c H locs ls hC hP hS hl
  exact lv_ineg hC.1 hC.2.1 hd (k ad cA D A p l e s m args below meth c H locs ls hC hP hS hl)
theorem g_iushr {x y : Int32} (hd : decode M.2.1 pc = .ok (.iushr, 1)) (k : G M d (pc + 1) L (.int ((x.toUInt32 >>> (y.toUInt32 &&& Int32.toUInt32 31)).toInt32) :: st) σ Q) : G M d pc L (.int y :: .int x :: st) σ Q := by
  intro ad cA D A p l e s m args below meth c H locs ls hC hP hS hl
  exact lv_iushr hC.1 hC.2.1 hd rfl (k ad cA D A p l e s m args below meth c H locs ls hC hP hS hl)
theorem g_lshl {x : Int64} {y : Int32} (hd : decode M.2.1 pc = .ok (.lshl, 1)) (k : G M d (pc + 1) L (.long (x <<< (y.toInt64 &&& 63)) :: st) σ Q) : G M d pc L (.int y :: .long x :: st) σ Q := by
  intro ad cA D A p l e s m args below meth c H locs ls hC hP hS hl
  exact lv_lshl hC.1 hC.2.1 hd rfl (k ad cA D A p l e s m args below meth c H locs ls hC hP hS hl)
theorem g_i2l {x : Int32} (hd : decode M.2.1 pc = .ok (.i2l, 1)) (k : G M d (pc + 1) L (.long (x.toInt64) :: st) σ Q) : G M d pc L (.int x :: st) σ Q := by
  intro ad cA D A p l e s m args below meth c H locs ls hC hP hS hl
  exact lv_i2l hC.1 hC.2.1 hd rfl (k ad cA D A p l e s m args below meth c H locs ls hC hP hS hl)
theorem g_l2i {x : Int64} (hd : decode M.2.1 pc = .ok (.l2i, 1)) (k : G M d (pc + 1) L (.int (x.toInt32) :: st) σ Q) : G M d pc L (.long x :: st) σ Q := by
  intro ad cA D A p l e s m args below meth c H locs ls hC hP hS hl
  exact lv_l2i hC.1 hC.2.1 hd rfl (k ad cA D A p l e s m args below meth c H locs ls hC hP hS hl)
theorem g_i2b {x : Int32} (hd : decode M.2.1 pc = .ok (.i2b, 1)) (k : G M d (pc + 1) L (.int (x.toInt8.toInt32) :: st) σ Q) : G M d pc L (.int x :: st) σ Q := by
  intro ad cA D A p l e s m args below meth c H locs ls hC hP hS hl
  exact lv_i2b hC.1 hC.2.1 hd rfl (k ad cA D A p l e s m args below meth c H locs ls hC hP hS hl)
theorem g_i2s {x : Int32} (hd : decode M.2.1 pc = .ok (.i2s, 1)) (k : G M d (pc + 1) L (.int (x.toInt16.toInt32) :: st) σ Q) : G M d pc L (.int x :: st) σ Q := by
  intro ad cA D A p l e s m args below meth c H locs ls hC hP hS hl
  exact lv_i2s hC.1 hC.2.1 hd rfl (k ad cA D A p l e s m args below meth c H locs ls hC hP hS hl)
theorem g_i2c {x : Int32} (hd : decode M.2.1 pc = .ok (.i2c, 1)) (k : G M d (pc + 1) L (.int ((x.toUInt32 % 65536).toInt32) :: st) σ Q) : G M d pc L (.int x :: st) σ Q := by
  intro ad cA D A p l e s m args below meth c H locs ls hC hP hS hl
  exact lv_i2c hC.1 hC.2.1 hd rfl (k ad cA D A p l e s m args below meth c H locs ls hC hP hS hl)
theorem g_lcmp {x y : Int64} (hd : decode M.2.1 pc = .ok (.lcmp, 1)) (k : G M d (pc + 1) L (.int (lg_cmp x y) :: st) σ Q) : G M d pc L (.long y :: .long x :: st) σ Q := by
  intro ad cA D A p l e s m args below meth c H locs ls hC hP hS hl
  exact W.lcmp hC.1 hC.2.1 hd (k ad cA D A p l e s m args below meth c H locs ls hC hP hS hl)
theorem g_dup {v : Value} (hd : decode M.2.1 pc = .ok (.dup, 1)) (hv : v.category = 1) (k : G M d (pc + 1) L (v :: v :: st) σ Q) : G M d pc L (v :: st) σ Q := by
  intro ad cA D A p l e s m args below meth c H locs ls hC hP hS hl
  exact lv_dup hC.1 hC.2.1 hd (by rw [gtr_cat]; exact hv) (k ad cA D A p l e s m args below meth c H locs ls hC hP hS hl)
theorem g_dup2 {v u : Value} (hd : decode M.2.1 pc = .ok (.dup2, 1)) (hv : v.category = 1) (hu : u.category = 1) (k : G M d (pc + 1) L (v :: u :: v :: u :: st) σ Q) : G M d pc L (v :: u :: st) σ Q := by
  intro ad cA D A p l e s m args below meth c H locs ls hC hP hS hl
  exact lv_dup2_11 hC.1 hC.2.1 hd (by rw [gtr_cat]; exact hv) (by rw [gtr_cat]; exact hu) (k ad cA D A p l e s m args below meth c H locs ls hC hP hS hl)
theorem g_if_eq {x : Int32} {off : Int} {tgt : Nat} (hd : decode M.2.1 pc = .ok (.ifCond .eq off, 3)) (ht : (pc : Int) + off = (tgt : Int)) (kt : x = 0 → G M d tgt L st σ Q) (kf : ¬ (x = 0) → G M d (pc + 3) L st σ Q) : G M d pc L (.int x :: st) σ Q := by
  intro ad cA D A p l e s m args below meth c H locs ls hC hP hS hl
  exact lv_if_eq hC.1 hC.2.1 hd ht (fun h => kt h ad cA D A p l e s m args below meth c H locs ls hC hP hS hl) (fun h => kf h ad cA D A p l e s m args below meth c H locs ls hC hP hS hl)
theorem g_icmp_eq {x y : Int32} {off : Int} {tgt : Nat} (hd : decode M.2.1 pc = .ok (.if_icmp .eq off, 3)) (ht : (pc : Int) + off = (tgt : Int)) (kt : x = y → G M d tgt L st σ Q) (kf : ¬ (x = y) → G M d (pc + 3) L st σ Q) : G M d pc L (.int y :: .int x :: st) σ Q := by
  intro ad cA D A p l e s m args below meth c H locs ls hC hP hS hl
  exact lv_icmp_eq hC.1 hC.2.1 hd ht (fun h => kt h ad cA D A p l e s m args below meth c H locs ls hC hP hS hl) (fun h => kf h ad cA D A p l e s m args below meth c H locs ls hC hP hS hl)
theorem g_if_ne {x : Int32} {off : Int} {tgt : Nat} (hd : decode M.2.1 pc = .ok (.ifCond .ne off, 3)) (ht : (pc : Int) + off = (tgt : Int)) (kt : ¬ x = 0 → G M d tgt L st σ Q) (kf : x = 0 → G M d (pc + 3) L st σ Q) : G M d pc L (.int x :: st) σ Q := by
  intro ad cA D A p l e s m args below meth c H locs ls hC hP hS hl
  exact lv_if_ne hC.1 hC.2.1 hd ht (fun h => kt h ad cA D A p l e s m args below meth c H locs ls hC hP hS hl) (fun h => kf h ad cA D A p l e s m args below meth c H locs ls hC hP hS hl)
theorem g_icmp_ne {x y : Int32} {off : Int} {tgt : Nat} (hd : decode M.2.1 pc = .ok (.if_icmp .ne off, 3)) (ht : (pc : Int) + off = (tgt : Int)) (kt : ¬ x = y → G M d tgt L st σ Q) (kf : x = y → G M d (pc + 3) L st σ Q) : G M d pc L (.int y :: .int x :: st) σ Q := by
  intro ad cA D A p l e s m args below meth c H locs ls hC hP hS hl
  exact lv_icmp_ne hC.1 hC.2.1 hd ht (fun h => kt h ad cA D A p l e s m args below meth c H locs ls hC hP hS hl) (fun h => kf h ad cA D A p l e s m args below meth c H locs ls hC hP hS hl)
theorem g_if_lt {x : Int32} {off : Int} {tgt : Nat} (hd : decode M.2.1 pc = .ok (.ifCond .lt off, 3)) (ht : (pc : Int) + off = (tgt : Int)) (kt : x < 0 → G M d tgt L st σ Q) (kf : ¬ (x < 0) → G M d (pc + 3) L st σ Q) : G M d pc L (.int x :: st) σ Q := by
  intro ad cA D A p l e s m args below meth c H locs ls hC hP hS hl
  exact lv_if_lt hC.1 hC.2.1 hd ht (fun h => kt h ad cA D A p l e s m args below meth c H locs ls hC hP hS hl) (fun h => kf h ad cA D A p l e s m args below meth c H locs ls hC hP hS hl)
theorem g_icmp_lt {x y : Int32} {off : Int} {tgt : Nat} (hd : decode M.2.1 pc = .ok (.if_icmp .lt off, 3)) (ht : (pc : Int) + off = (tgt : Int)) (kt : x < y → G M d tgt L st σ Q) (kf : ¬ (x < y) → G M d (pc + 3) L st σ Q) : G M d pc L (.int y :: .int x :: st) σ Q := by
  intro ad cA D A p l e s m args below meth c H locs ls hC hP hS hl
  exact lv_icmp_lt hC.1 hC.2.1 hd ht (fun h => kt h ad cA D A p l e s m args below meth c H locs ls hC hP hS hl) (fun h => kf h ad cA D A p l e s m args below meth c H locs ls hC hP hS hl)
theorem g_if_ge {x : Int32} {off : Int} {tgt : Nat} (hd : decode M.2.1 pc = .ok (.ifCond .ge off, 3)) (ht : (pc : Int) + off = (tgt : Int)) (kt : 0 ≤ x → G M d tgt L st σ Q) (kf : ¬ (0 ≤ x) → G M d (pc + 3) L st σ Q) : G M d pc L (.int x :: st) σ Q := by
  intro ad cA D A p l e s m args below meth c H locs ls hC hP hS hl
  exact lv_if_ge hC.1 hC.2.1 hd ht (fun h => kt h ad cA D A p l e s m args below meth c H locs ls hC hP hS hl) (fun h => kf h ad cA D A p l e s m args below meth c H locs ls hC hP hS hl)
theorem g_icmp_ge {x y : Int32} {off : Int} {tgt : Nat} (hd : decode M.2.1 pc = .ok (.if_icmp .ge off, 3)) (ht : (pc : Int) + off = (tgt : Int)) (kt : y ≤ x → G M d tgt L st σ Q) (kf : ¬ (y ≤ x) → G M d (pc + 3) L st σ Q) : G M d pc L (.int y :: .int x :: st) σ Q := by
  intro ad cA D A p l e s m args below meth c H locs ls hC hP hS hl
  exact lv_icmp_ge hC.1 hC.2.1 hd ht (fun h => kt h ad cA D A p l e s m args below meth c H locs ls hC hP hS hl) (fun h => kf h ad cA D A p l e s m args below meth c H locs ls hC hP hS hl)
theorem g_if_gt {x : Int32} {off : Int} {tgt : Nat} (hd : decode M.2.1 pc = .ok (.ifCond .gt off, 3)) (ht : (pc : Int) + off = (tgt : Int)) (kt : 0 < x → G M d tgt L st σ Q) (kf : ¬ (0 < x) → G M d (pc + 3) L st σ Q) : G M d pc L (.int x :: st) σ Q := by
  intro ad cA D A p l e s m args below meth c H locs ls hC hP hS hl
  exact lv_if_gt hC.1 hC.2.1 hd ht (fun h => kt h ad cA D A p l e s m args below meth c H locs ls hC hP hS hl) (fun h => kf h ad cA D A p l e s m args below meth c H locs ls hC hP hS hl)
theorem g_icmp_gt {x y : Int32} {off : Int} {tgt : Nat} (hd : decode M.2.1 pc = .ok (.if_icmp .gt off, 3)) (ht : (pc : Int) + off = (tgt : Int)) (kt : y < x → G M d tgt L st σ Q) (kf : ¬ (y < x) → G M d (pc + 3) L st σ Q) : G M d pc L (.int y :: .int x :: st) σ Q := by
  intro ad cA D A p l e s m args below meth c H locs ls hC hP hS hl
  exact lv_icmp_gt hC.1 hC.2.1 hd ht (fun h => kt h ad cA D A p l e s m args below meth c H locs ls hC hP hS hl) (fun h => kf h ad cA D A p l e s m args below meth c H locs ls hC hP hS hl)
theorem g_if_le {x : Int32} {off : Int} {tgt : Nat} (hd : decode M.2.1 pc = .ok (.ifCond .le off, 3)) (ht : (pc : Int) + off = (tgt : Int)) (kt : x ≤ 0 → G M d tgt L st σ Q) (kf : ¬ (x ≤ 0) → G M d (pc + 3) L st σ Q) : G M d pc L (.int x :: st) σ Q := by
  intro ad cA D A p l e s m args below meth c H locs ls hC hP hS hl
  exact lv_if_le hC.1 hC.2.1 hd ht (fun h => kt h ad cA D A p l e s m args below meth c H locs ls hC hP hS hl) (fun h => kf h ad cA D A p l e s m args below meth c H locs ls hC hP hS hl)
theorem g_icmp_le {x y : Int32} {off : Int} {tgt : Nat} (hd : decode M.2.1 pc = .ok (.if_icmp .le off, 3)) (ht : (pc : Int) + off = (tgt : Int)) (kt : x ≤ y → G M d tgt L st σ Q) (kf : ¬ (x ≤ y) → G M d (pc + 3) L st σ Q) : G M d pc L (.int y :: .int x :: st) σ Q := by
  intro ad cA D A p l e s m args below meth c H locs ls hC hP hS hl
  exact lv_icmp_le hC.1 hC.2.1 hd ht (fun h => kt h ad cA D A p l e s m args below meth c H locs ls hC hP hS hl) (fun h => kf h ad cA D A p l e s m args below meth c H locs ls hC hP hS hl)
theorem g_goto {off : Int} {tgt : Nat} (hd : decode M.2.1 pc = .ok (.goto off, 3)) (ht : (pc : Int) + off = (tgt : Int)) (k : G M d tgt L st σ Q) : G M d pc L st σ Q := by
  intro ad cA D A p l e s m args below meth c H locs ls hC hP hS hl
  exact lv_goto hC.1 hC.2.1 hd ht (k ad cA D A p l e s m args below meth c H locs ls hC hP hS hl)
theorem g_lookup {dflt : Int} {ps : Array (Int × Int)} {len : Nat} {x : Int32} {off : Int} {tgt : Nat} (hd : decode M.2.1 pc = .ok (.lookupswitch dflt ps, len)) (hp : (ps.toList.zip (ps.toList.drop 1)).all (fun (a, next) => a.1 < next.1) = true) (ho : Op.lookupswitch.offset ps.toList dflt x.toInt = off) (ht : (pc : Int) + off = (tgt : Int)) (k : G M d tgt L st σ Q) : G M d pc L (.int x :: st) σ Q := by
  intro ad cA D A p l e s m args below meth c H locs ls hC hP hS hl
  exact lv_lookup hC.1 hC.2.1 hd hp ho ht (k ad cA D A p l e s m args below meth c H locs ls hC hP hS hl)
theorem g_tableOut {dflt lo hi : Int} {offs : Array Int} {len : Nat} {x : Int32} {tgt : Nat} (hd : decode M.2.1 pc = .ok (.tableswitch dflt lo hi offs, len)) (h : x.toInt < lo ∨ hi < x.toInt) (ht : (pc : Int) + dflt = (tgt : Int)) (k : G M d tgt L st σ Q) : G M d pc L (.int x :: st) σ Q := by
  intro ad cA D A p l e s m args below meth c H locs ls hC hP hS hl
  exact lv_tableOut hC.1 hC.2.1 hd h ht (k ad cA D A p l e s m args below meth c H locs ls hC hP hS hl)
theorem g_tableIn {dflt lo hi : Int} {offs : Array Int} {len : Nat} {x : Int32} {off : Int} {tgt : Nat} (hd : decode M.2.1 pc = .ok (.tableswitch dflt lo hi offs, len)) (h1 : ¬ x.toInt < lo) (h2 : ¬ hi < x.toInt) (ho : offs[(x.toInt - lo).toNat]? = some off) (ht : (pc : Int) + off = (tgt : Int)) (k : G M d tgt L st σ Q) : G M d pc L (.int x :: st) σ Q := by
  intro ad cA D A p l e s m args below meth c H locs ls hC hP hS hl
  exact lv_tableIn hC.1 hC.2.1 hd h1 h2 ho ht (k ad cA D A p l e s m args below meth c H locs ls hC hP hS hl)
theorem g_iret {x : Int32} (hr : M.2.2.2 = some .int) (hd : decode M.2.1 pc = .ok (.ireturn, 1)) (hq : Q (some (.int x)) σ) : G M d pc L [.int x] σ Q := by
  intro ad cA D A p l e s m args below meth c H locs ls hC hP hS hl
  exact W.iret (v := x) hC.1 hC.2.1 (hC.2.2.2.1.trans hr) (fun t ht hW => ⟨⟨some (.int x), σ, rfl, hq, by rw [ht]; exact hP⟩, hS.F ht⟩) hS.2.2 hd hC.2.2.2.2.1
theorem g_lret {x : Int64} (hr : M.2.2.2 = some .long) (hd : decode M.2.1 pc = .ok (.lreturn, 1)) (hq : Q (some (.long x)) σ) : G M d pc L [.long x] σ Q := by
  intro ad cA D A p l e s m args below meth c H locs ls hC hP hS hl
  exact W.lret (v := x) hC.1 hC.2.1 (hC.2.2.2.1.trans hr) (fun t ht hW => ⟨⟨some (.long x), σ, rfl, hq, by rw [ht]; exact hP⟩, hS.F ht⟩) hS.2.2 hd hC.2.2.2.2.1
theorem g_zret {x : Int32} {ty : FieldType} (hr : M.2.2.2 = some ty) (hx : narrow ty (.int x) = .int x) (hd : decode M.2.1 pc = .ok (.ireturn, 1)) (hq : Q (some (.int x)) σ) : G M d pc L [.int x] σ Q := by
  intro ad cA D A p l e s m args below meth c H locs ls hC hP hS hl
  exact W.zret (v := x) hC.1 hC.2.1 (hC.2.2.2.1.trans hr) hx (fun t ht hW => ⟨⟨some (.int x), σ, rfl, hq, by rw [ht]; exact hP⟩, hS.F ht⟩) hS.2.2 hd hC.2.2.2.2.1
theorem g_vret (hr : M.2.2.2 = none) (hd : decode M.2.1 pc = .ok (.return_, 1)) (hq : Q none σ) : G M d pc L [] σ Q := by
  intro ad cA D A p l e s m args below meth c H locs ls hC hP hS hl
  exact W.vret hC.1 hC.2.1 (hC.2.2.2.1.trans hr) (fun t ht hW => ⟨⟨none, σ, rfl, hq, by rw [ht]; exact hP⟩, hS.F ht⟩) hS.2.2 hd hC.2.2.2.2.1
end GRows
