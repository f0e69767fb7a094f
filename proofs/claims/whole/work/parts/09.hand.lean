/-! by hand: Math, Arrays.fill, the String of the name letters -/
def gmax (x y : Int32) : Int32 := if x < y then y else x
def gmin (x y : Int32) : Int32 := if y < x then y else x
def gabs (x : Int32) : Int32 := if 0 ≤ x then x else 0 - x
abbrev tb_TXT : List Int32 := gtxt
section GMath
variable {M : gM} {d pc : Nat} {L : List (Option Value)} {st : List Value} {σ : gS} {Q : Option Value → gS → Prop}
theorem g_mmax {idx : Nat} {x y : Int32} (wl : Cond.methodLink M.1.cls idx Lib.Math.max.name ∈ gtb) (ws : Cond.static Lib.Math.max.name ∈ gtb) (wi : Cond.initialized "java/lang/Math" ∈ gtb) (wc : Cond.code Lib.Math.max.name Lib.Math.max.code 2 (some .int) ∈ gtb) (hd1 : 1 ≤ d) (hr : (st.map fun v => v.category).sum ≤ 8) (hd : decode M.2.1 pc = .ok (.invokestatic idx, 3)) (k : G M d (pc + 3) L (.int (gmax x y) :: st) σ Q) : G M d pc L (.int y :: .int x :: st) σ Q := by
  intro ad cA D A p l e s m args below meth c H locs ls hC hP hS hl
  exact va_mmax hC.1 hC.2.1 (hC.2.2.1.trans hl.1.symm) hC.2.2.2.2.2.1 (hC.2.2.2.2.2.2.1 _ wl) (hC.2.2.2.2.2.2.1 _ ws) (hC.2.2.2.2.2.2.1 _ wi) (hC.2.2.2.2.2.2.1 _ wc) hd1 (by rw [gsum]; show _ ≤ 64 * d; omega) (Nat.le_refl _) (Nat.le_refl _) hd (k ad cA D A p l e s m args below meth c H locs ls hC hP hS hl)
theorem g_mmin {idx : Nat} {x y : Int32} (wl : Cond.methodLink M.1.cls idx Lib.Math.min.name ∈ gtb) (ws : Cond.static Lib.Math.min.name ∈ gtb) (wi : Cond.initialized "java/lang/Math" ∈ gtb) (wc : Cond.code Lib.Math.min.name Lib.Math.min.code 2 (some .int) ∈ gtb) (hd1 : 1 ≤ d) (hr : (st.map fun v => v.category).sum ≤ 8) (hd : decode M.2.1 pc = .ok (.invokestatic idx, 3)) (k : G M d (pc + 3) L (.int (gmin x y) :: st) σ Q) : G M d pc L (.int y :: .int x :: st) σ Q := by
  intro ad cA D A p l e s m args below meth c H locs ls hC hP hS hl
  exact va_mmin hC.1 hC.2.1 (hC.2.2.1.trans hl.1.symm) hC.2.2.2.2.2.1 (hC.2.2.2.2.2.2.1 _ wl) (hC.2.2.2.2.2.2.1 _ ws) (hC.2.2.2.2.2.2.1 _ wi) (hC.2.2.2.2.2.2.1 _ wc) hd1 (by rw [gsum]; show _ ≤ 64 * d; omega) (Nat.le_refl _) (Nat.le_refl _) hd (k ad cA D A p l e s m args below meth c H locs ls hC hP hS hl)
theorem g_mabs {idx : Nat} {x : Int32} (wl : Cond.methodLink M.1.cls idx Lib.Math.abs.name ∈ gtb) (ws : Cond.static Lib.Math.abs.name ∈ gtb) (wi : Cond.initialized "java/lang/Math" ∈ gtb) (wc : Cond.code Lib.Math.abs.name Lib.Math.abs.code 1 (some .int) ∈ gtb) (hd1 : 1 ≤ d) (hr : (st.map fun v => v.category).sum ≤ 8) (hd : decode M.2.1 pc = .ok (.invokestatic idx, 3)) (k : G M d (pc + 3) L (.int (gabs x) :: st) σ Q) : G M d pc L (.int x :: st) σ Q := by
  intro ad cA D A p l e s m args below meth c H locs ls hC hP hS hl
  exact va_mabs hC.1 hC.2.1 (hC.2.2.1.trans hl.1.symm) hC.2.2.2.2.2.1 (hC.2.2.2.2.2.2.1 _ wl) (hC.2.2.2.2.2.2.1 _ ws) (hC.2.2.2.2.2.2.1 _ wi) (hC.2.2.2.2.2.2.1 _ wc) hd1 (by rw [gsum]; show _ ≤ 64 * d; omega) (Nat.le_refl _) (Nat.le_refl _) hd (k ad cA D A p l e s m args below meth c H locs ls hC hP hS hl)
/-- the String of the name letters: cell 1004; its bytes: cell 1005 -/
theorem g_ldcs (hM : M.1.cls = RX6) (hd : decode M.2.1 pc = .ok (.ldc 83, 2)) (k : G M d (pc + 2) L (.ref 1004 :: st) σ Q) : G M d pc L st σ Q := by
  intro ad cA D A p l e s m args below meth c H locs ls hC hP hS hl
  exact va_ldcS hC.1 hC.2.1 hC.2.2.2.2.2.1 (by rw [hM]; exact hC.2.2.2.2.2.2.2.2.2.2.2.2.1) hd (k ad cA D A p l e s m args below meth c H locs ls hC hP hS hl)
theorem g_strv {idx : Nat} (hk : Cond.fieldLink M.1.cls idx "java/lang/String" "value" "[B" ∈ gtb) (hd : decode M.2.1 pc = .ok (.getfield idx, 3)) (k : G M d (pc + 3) L (.ref 1005 :: st) σ Q) : G M d pc L (.ref 1004 :: st) σ Q := by
  intro ad cA D A p l e s m args below meth c H locs ls hC hP hS hl
  exact vk_getf hC.1 hC.2.1 (hC.2.2.2.2.2.2.2.2.2.2.2.2.2.1 0 (by decide)).2.2.1 hS hC.2.2.2.2.2.1 (hC.2.2.2.2.2.2.1 _ hk) (fun _ h => h) hd (k ad cA D A p l e s m args below meth c H locs ls hC hP hS hl)
theorem g_strc {idx : Nat} (hk : Cond.fieldLink M.1.cls idx "java/lang/String" "coder" "B" ∈ gtb) (hd : decode M.2.1 pc = .ok (.getfield idx, 3)) (k : G M d (pc + 3) L (.int 0 :: st) σ Q) : G M d pc L (.ref 1004 :: st) σ Q := by
  intro ad cA D A p l e s m args below meth c H locs ls hC hP hS hl
  exact vk_getf hC.1 hC.2.1 (hC.2.2.2.2.2.2.2.2.2.2.2.2.2.1 0 (by decide)).2.1 hS hC.2.2.2.2.2.1 (hC.2.2.2.2.2.2.1 _ hk) (fun _ h => h) hd (k ad cA D A p l e s m args below meth c H locs ls hC hP hS hl)
theorem g_gZ {idx : Nat} (hk : Cond.fieldLink M.1.cls idx "java/lang/String" "COMPACT_STRINGS" "Z" ∈ gtb) (hd : decode M.2.1 pc = .ok (.getstatic idx, 3)) (k : G M d (pc + 3) L (.int 1 :: st) σ Q) : G M d pc L st σ Q := by
  intro ad cA D A p l e s m args below meth c H locs ls hC hP hS hl
  exact va_gets hC.1 hC.2.1 hC.2.2.2.2.2.2.2.2.2.2.2.1 hS hC.2.2.2.2.2.1 (hC.2.2.2.2.2.2.1 _ hk) (fun _ h => h) hd (k ad cA D A p l e s m args below meth c H locs ls hC hP hS hl)
theorem g_bald {i : Int32} (hi : vp_in i 6) (hd : decode M.2.1 pc = .ok (.baload, 1)) (k : G M d (pc + 1) L (.int (tb_TXT.getD i.toNatClampNeg 0) :: st) σ Q) : G M d pc L (.int i :: .ref 1005 :: st) σ Q := by
  intro ad cA D A p l e s m args below meth c H locs ls hC hP hS hl
  exact va_tb hC.1 hC.2.1 (hC.2.2.2.2.2.2.2.2.2.2.2.2.2.1 0 (by decide)).2.2.2 hS hi rfl hd (k ad cA D A p l e s m args below meth c H locs ls hC hP hS hl)
theorem g_blen (hd : decode M.2.1 pc = .ok (.arraylength, 1)) (k : G M d (pc + 1) L (.int 6 :: st) σ Q) : G M d pc L (.ref 1005 :: st) σ Q := by
  intro ad cA D A p l e s m args below meth c H locs ls hC hP hS hl
  exact va_tlen hC.1 hC.2.1 (hC.2.2.2.2.2.2.2.2.2.2.2.2.2.1 0 (by decide)).2.2.2 hS rfl hd (k ad cA D A p l e s m args below meth c H locs ls hC hP hS hl)
theorem g_callVS {M2 : gM} {idx n d2 : Nat} {vs stk : List Value} (hk : gLV M.1.cls idx M2 n) (hci : M2.1.cls = "java/lang/String") (hn : vs.length = n) (hm : M2.2.2.1 ≤ 45) (hdd : d2 < d) (hr : (st.map fun v => v.category).sum ≤ 8) (hstk : stk = vs.reverse ++ .ref 1004 :: st) (hd : decode M.2.1 pc = .ok (.invokevirtual idx, 3))
    (k : Ct d2 M2 (.ref 1004 :: vs) σ (fun r τ => G M d (pc + 3) L (r.toList ++ st) τ Q)) : G M d pc L stk σ Q := by
  subst hstk
  intro ad cA D A p l e s m args below meth c H locs ls hC hP hS hl
  obtain ⟨hB, h1, h2, h3⟩ := hk
  have hrec := vk_recv (hC.2.2.2.2.2.2.2.2.2.2.2.2.2 : vk_S 1 [6] [gtxt] (fun _ => ad 1004) (fun _ => ad 1005) A s s.heap) (i := 0) (by decide) hS
  rw [← hci] at hrec
  refine g_cont (st := st) hC hS hl (a := ((Value.ref (ad 1004)) :: vs.map (gtr ad)).toArray) (va_runV (As := vs.map (gtr ad)) (rest := st.map (gtr ad)) (b := ad 1004) ⟨hC.1, hC.2.1, hC.2.2.1, hC.2.2.2.2.2.1, hC.2.2.2.2.2.2.1⟩ (k ad cA D A l) ⟨gCallB hC hB (hC.2.2.2.2.2.2.1 _ h1) hm hdd, hC.2.2.2.2.2.2.1 _ h2, hC.2.2.2.2.2.2.1 _ h3⟩ ⟨gW_blind, hrec, fun U hU hW => ⟨rfl, gW_at hC hP hS hU hW⟩⟩ rfl (by rw [List.length_map]; exact hn) hl.1 ?_ (lv_room (by rw [gsum]; exact hr)) hd ⟨Nat.zero_le _, Nat.zero_le _⟩)
  show (vs.reverse ++ .ref 1004 :: st).map (gtr ad) = _
  rw [List.map_append, List.map_reverse]
  rfl
end GMath
def f_JA_fill (n a : Nat) (v : Int32) (σ : gS) : Option gS := some (gsi σ a (fun i => if i < n then v else σ.1 a i))
def f_JA_fillJ (n a : Nat) (v : Int64) (σ : gS) : Option gS := some (gsl σ a (fun i => if i < n then v else σ.2 a i))
theorem gnat_lt {a b : Nat} (ha : a < 2 ^ 31) (hb : b < 2 ^ 31) : Int32.ofNat a < Int32.ofNat b ↔ a < b := by
  rw [Int32.lt_iff_toInt_lt, Int32.toInt_ofNat_of_lt ha, Int32.toInt_ofNat_of_lt hb]
  omega
theorem gnat_le {a b : Nat} (ha : a < 2 ^ 31) (hb : b < 2 ^ 31) : Int32.ofNat a ≤ Int32.ofNat b ↔ a ≤ b := by
  rw [Int32.le_iff_toInt_le, Int32.toInt_ofNat_of_lt ha, Int32.toInt_ofNat_of_lt hb]
  omega
theorem gnat_cl {a : Nat} (ha : a < 2 ^ 31) : (Int32.ofNat a).toNatClampNeg = a := by
  rw [← Int32.toNat_toInt, Int32.toInt_ofNat_of_lt ha]
  omega
theorem gnat_in {a n : Nat} (ha : a < 2 ^ 31) (h : a < n) : vp_in (Int32.ofNat a) n := by
  unfold vp_in
  rw [gnat_cl ha]
  have : ¬ Int32.ofNat a < 0 := by
    rw [show (0 : Int32) = Int32.ofNat 0 from rfl, gnat_lt ha (by decide)]
    omega
  simp only [this, false_or]
  omega
theorem c_JA_fill (d : Nat) (hd : 1 ≤ d) (n : Nat) (hn : n ≤ 2000) (a : Nat) (ha : gia a = some n) (v : Int32) (σ : gS) : C wV d m_JA_fill [.ref a, .int v] σ (f_JA_fill n a v σ) := by
  intro b Q h1 h2
  cases h1
  refine Ct.of (by decide +kernel) (Nat.le_of_ble_eq_true rfl) (L := [some (.ref a), some (.int v), none, none]) rfl ?_
  refine g_iconst (v := (0 : Int32)) d_JA_fill_0 (by decide) ?_
  refine g_istore_n d_JA_fill_1 (Nat.le_of_ble_eq_true rfl) (L2 := [some (.ref a), some (.int v), some (.int 0), none]) rfl ?_
  refine g_aload_n d_JA_fill_2 rfl ?_
  refine g_alen (v := Int32.ofNat n) ha rfl d_JA_fill_3 ?_
  refine g_istore_n d_JA_fill_4 (Nat.le_of_ble_eq_true rfl) (L2 := [some (.ref a), some (.int v), some (.int 0), some (.int (Int32.ofNat n))]) rfl ?_
  have hL : ∀ (k i : Nat) (τ : gS), k = n - i → i ≤ n → gsi σ a (fun i => if i < n then v else σ.1 a i) = gsi τ a (fun j => if i ≤ j ∧ j < n then v else τ.1 a j) → G m_JA_fill d 5 [some (.ref a), some (.int v), some (.int (Int32.ofNat i)), some (.int (Int32.ofNat n))] [] τ Q := by
    intro k
    induction k with
    | zero =>
      intro i τ hk hi hτ
      refine g_iload_n d_JA_fill_5 rfl (g_iload_n d_JA_fill_6 rfl (g_icmp_ge d_JA_fill_7 rfl (fun _ => ?_) (fun h => absurd ((gnat_le (by omega) (by omega)).mpr (by omega)) h)))
      refine g_vret rfl d_JA_fill_20 ?_
      have : gsi σ a (fun i => if i < n then v else σ.1 a i) = τ := by
        rw [hτ]
        refine Prod.ext (funext fun j => ?_) rfl
        show (if j = a then _ else τ.1 j) = τ.1 j
        by_cases hj : j = a
        · rw [if_pos hj, hj]
          funext q
          show (if i ≤ q ∧ q < n then v else τ.1 a q) = τ.1 a q
          rw [if_neg (by omega)]
        · rw [if_neg hj]
      rw [← this]
      exact h2
    | succ k ih =>
      intro i τ hk hi hτ
      refine g_iload_n d_JA_fill_5 rfl (g_iload_n d_JA_fill_6 rfl (g_icmp_ge d_JA_fill_7 rfl (fun h => absurd ((gnat_le (by omega) (by omega)).mp h) (by omega)) (fun _ => ?_)))
      refine g_aload_n d_JA_fill_10 rfl (g_iload_n d_JA_fill_11 rfl (g_iload_n d_JA_fill_12 rfl (g_iast ha (gnat_in (by omega) (by omega)) d_JA_fill_13 ?_)))
      refine g_iinc d_JA_fill_14 rfl (v := Int32.ofNat (i + 1)) (by rw [Int32.ofNat_add]; rfl) (Nat.le_of_ble_eq_true rfl) rfl (g_goto d_JA_fill_17 rfl ?_)
      refine ih (i + 1) _ (by omega) (by omega) ?_
      rw [hτ, gnat_cl (by omega)]
      refine Prod.ext (funext fun j => ?_) rfl
      show (if j = a then _ else τ.1 j) = if j = a then _ else (gpi τ a i v).1 j
      by_cases hj : j = a
      · rw [if_pos hj, if_pos hj]
        funext q
        show (if i ≤ q ∧ q < n then v else τ.1 a q) = if i + 1 ≤ q ∧ q < n then v else (gpi τ a i v).1 a q
        rw [show (gpi τ a i v).1 a = upd (τ.1 a) i v from gsi_s]
        unfold upd
        by_cases hq : q = i
        · subst hq
          rw [if_pos (by omega), if_neg (by omega), if_pos rfl]
        · rw [if_neg hq]
          by_cases h3 : i ≤ q ∧ q < n
          · rw [if_pos h3, if_pos (by omega)]
          · rw [if_neg h3, if_neg (by omega)]
      · rw [if_neg hj, if_neg hj, gsi_n hj]
  refine hL n 0 σ (by omega) (by omega) ?_
  simp only [Nat.zero_le, true_and]
theorem c_JA_fillJ (d : Nat) (hd : 1 ≤ d) (n : Nat) (hn : n ≤ 2000) (a : Nat) (ha : gla a = some n) (v : Int64) (σ : gS) : C wV d m_JA_fillJ [.ref a, .long v] σ (f_JA_fillJ n a v σ) := by
  intro b Q h1 h2
  cases h1
  refine Ct.of (by decide +kernel) (Nat.le_of_ble_eq_true rfl) (L := [some (.ref a), some (.long v), none, none, none]) rfl ?_
  refine g_iconst (v := (0 : Int32)) d_JA_fillJ_0 (by decide) ?_
  refine g_istore_n d_JA_fillJ_1 (Nat.le_of_ble_eq_true rfl) (L2 := [some (.ref a), some (.long v), none, some (.int 0), none]) rfl ?_
  refine g_aload_n d_JA_fillJ_2 rfl ?_
  refine g_alenl (v := Int32.ofNat n) ha rfl d_JA_fillJ_3 ?_
  refine g_istore d_JA_fillJ_4 (Nat.le_of_ble_eq_true rfl) (L2 := [some (.ref a), some (.long v), none, some (.int 0), some (.int (Int32.ofNat n))]) rfl ?_
  have hL : ∀ (k i : Nat) (τ : gS), k = n - i → i ≤ n → gsl σ a (fun i => if i < n then v else σ.2 a i) = gsl τ a (fun j => if i ≤ j ∧ j < n then v else τ.2 a j) → G m_JA_fillJ d 6 [some (.ref a), some (.long v), none, some (.int (Int32.ofNat i)), some (.int (Int32.ofNat n))] [] τ Q := by
    intro k
    induction k with
    | zero =>
      intro i τ hk hi hτ
      refine g_iload_n d_JA_fillJ_6 rfl (g_iload d_JA_fillJ_7 rfl (g_icmp_ge d_JA_fillJ_9 rfl (fun _ => ?_) (fun h => absurd ((gnat_le (by omega) (by omega)).mpr (by omega)) h)))
      refine g_vret rfl d_JA_fillJ_22 ?_
      have : gsl σ a (fun i => if i < n then v else σ.2 a i) = τ := by
        rw [hτ]
        refine Prod.ext rfl (funext fun j => ?_)
        show (if j = a then _ else τ.2 j) = τ.2 j
        by_cases hj : j = a
        · rw [if_pos hj, hj]
          funext q
          show (if i ≤ q ∧ q < n then v else τ.2 a q) = τ.2 a q
          rw [if_neg (by omega)]
        · rw [if_neg hj]
      rw [← this]
      exact h2
    | succ k ih =>
      intro i τ hk hi hτ
      refine g_iload_n d_JA_fillJ_6 rfl (g_iload d_JA_fillJ_7 rfl (g_icmp_ge d_JA_fillJ_9 rfl (fun h => absurd ((gnat_le (by omega) (by omega)).mp h) (by omega)) (fun _ => ?_)))
      refine g_aload_n d_JA_fillJ_12 rfl (g_iload_n d_JA_fillJ_13 rfl (g_lload_n d_JA_fillJ_14 rfl (g_last ha (gnat_in (by omega) (by omega)) d_JA_fillJ_15 ?_)))
      refine g_iinc d_JA_fillJ_16 rfl (v := Int32.ofNat (i + 1)) (by rw [Int32.ofNat_add]; rfl) (Nat.le_of_ble_eq_true rfl) rfl (g_goto d_JA_fillJ_19 rfl ?_)
      refine ih (i + 1) _ (by omega) (by omega) ?_
      rw [hτ, gnat_cl (by omega)]
      refine Prod.ext rfl (funext fun j => ?_)
      show (if j = a then _ else τ.2 j) = if j = a then _ else (gpl τ a i v).2 j
      by_cases hj : j = a
      · rw [if_pos hj, if_pos hj]
        funext q
        show (if i ≤ q ∧ q < n then v else τ.2 a q) = if i + 1 ≤ q ∧ q < n then v else (gpl τ a i v).2 a q
        rw [show (gpl τ a i v).2 a = vp_updL (τ.2 a) i v from gsl_s]
        unfold vp_updL
        by_cases hq : q = i
        · subst hq
          rw [if_pos (by omega), if_neg (by omega), if_pos rfl]
        · rw [if_neg hq]
          by_cases h3 : i ≤ q ∧ q < n
          · rw [if_pos h3, if_pos (by omega)]
          · rw [if_neg h3, if_neg (by omega)]
      · rw [if_neg hj, if_neg hj, gsl_n hj]
  refine hL n 0 σ (by omega) (by omega) ?_
  simp only [Nat.zero_le, true_and]

