/-! pure: drawn agrees -/
def zs (z : Int32) : Nat → Int32
  | 0 => z
  | k + 1 => zs z k * nI 1103515245 + nI 12345
def zu (z : Int32) (k : Nat) : Nat := (zs z (k + 1)).toBitVec.toNat
theorem zu_eq (z : Int32) (k : Nat) : zs z (k + 1) = nI (zu z k) ∧ zu z k < 4294967296 := by
  refine ⟨Int32.toBitVec_inj.mp ?_, (zs z (k + 1)).toBitVec.isLt⟩
  show _ = BitVec.ofNat 32 _
  unfold zu
  simp
def zw (z : Int32) (k : Nat) : Nat := zu z k / 2 ^ 8 % 6
def za (z : Int32) (n k : Nat) : Nat := zu z k / 2 ^ 16 % n
theorem zw_eq (z : Int32) (k : Nat) : grem (gush (zs z (k + 1)) (nI 8)) (nI 6) = nI (zw z k) ∧ zw z k < 6 := by
  obtain ⟨e, h⟩ := zu_eq z k
  refine ⟨?_, Nat.mod_lt _ (by decide)⟩
  rw [e, ushN h (by decide), grem_nI (by omega) (by decide) (by decide)]
  rfl
theorem za_eq (z : Int32) {n : Nat} (h0 : 0 < n) (hn : n ≤ 10) (k : Nat) : grem (gush (zs z (k + 1)) (nI 16)) (nI n) = nI (za z n k) ∧ za z n k < n := by
  obtain ⟨e, h⟩ := zu_eq z k
  refine ⟨?_, Nat.mod_lt _ h0⟩
  rw [e, ushN h (by decide), grem_nI (by omega) h0 (by omega)]
  rfl
/-- what has happened on the k-th drawn day: told by hs -/
def Dr (n : Nat) (V : VT) (K E P : Nat → Nat) (B : Nat → Int32) (W D : Nat) (z : Int32) (md : Nat) (hs : Nat → Nat) : Prop := ∀ k, if n = 0 then hs k = 0 else Bits (hs k) (Hp n (sy V K E P B (zw z k) (min 99 (D + k % md))) K W (fun j => j ≠ za z n k))
theorem Dr.ex (n : Nat) (V : VT) (K E P : Nat → Nat) (B : Nat → Int32) (W D : Nat) (z : Int32) (md : Nat) (hR : ∀ w d, w < 6 → Rg n (sy V K E P B w d) K W) : ∃ hs, Dr n V K E P B W D z md hs := by
  have : ∀ k, ∃ h : Nat, if n = 0 then h = 0 else Bits h (Hp n (sy V K E P B (zw z k) (min 99 (D + k % md))) K W (fun j => j ≠ za z n k)) := by
    intro k
    by_cases h0 : n = 0
    · exact ⟨0, by rw [if_pos h0]⟩
    · obtain ⟨h, hh⟩ := Bits.ex (Hp n (sy V K E P B (zw z k) (min 99 (D + k % md))) K W (fun j => j ≠ za z n k)) 6
      exact ⟨h, by rw [if_neg h0]; exact hh.cg fun w => ⟨fun y => y.2, fun y => ⟨Hp.lt (hR _ _ (zw_eq z k).2) w y, y⟩⟩⟩
  obtain ⟨f, hf⟩ := Classical.axiomOfChoice this
  exact ⟨f, hf⟩
theorem Dr.lt {n : Nat} {V : VT} {K E P : Nat → Nat} {B : Nat → Int32} {W D : Nat} {z : Int32} {md : Nat} {hs : Nat → Nat} (h : Dr n V K E P B W D z md hs) (hR : ∀ w d, w < 6 → Rg n (sy V K E P B w d) K W) (k : Nat) : hs k < 64 := by
  have := h k
  by_cases h0 : n = 0
  · rw [if_pos h0] at this
    omega
  · rw [if_neg h0] at this
    exact this.lt6 (Hp.lt (hR _ _ (zw_eq z k).2))
def fnd (hs : Nat → Nat) (w k : Nat) : Nat := if w = 6 then (if hs k = 0 then 1 else 0) else if (hs k).testBit w = true then 1 else 0
theorem fnd_le (hs : Nat → Nat) (w k : Nat) : fnd hs w k ≤ 1 := by
  unfold fnd
  split
  · split <;> omega
  · split <;> omega
theorem Tdrawn_L {σ : gS} {n : Nat} {K E P : Nat → Nat} {B : Nat → Int32} {F W D m : Nat} {V : VT} (h : Ctx σ n K E P B F W D m V) (hm : Memo σ n K E P B W D V) {z : Int32} {y md w : Nat} (hy : y ≤ 30) (hmd : 0 < md) (hmd2 : md ≤ 40) (hw : w < 7) {hs : Nat → Nat} (hd : Dr n V K E P B W D z md hs) :
    ∃ τ, f_T_drawn_L65 gfu (nI w) (nI y) (nI md) z (nI 0) (nI 0) σ = some (nI (sm (fnd hs w) (y * md)), τ) ∧ Frs σ τ := by
  have hn := h.1.1.1
  have hR : ∀ w d, w < 6 → Rg n (sy V K E P B w d) K W := fun w d hw => sy_rg h.1.pm hw
  have hym : y * md ≤ 30 * 40 := Nat.mul_le_mul hy hmd2
  have mm : nI y * nI md = nI (y * md) := pk_mul y md
  refine loopG (fun fu i (a : gS) => f_T_drawn_L65 fu (nI w) (nI y) (nI md) (zs z i) (nI (sm (fnd hs w) i)) (nI i) a) (fun o => ∃ τ, o = some (nI (sm (fnd hs w) (y * md)), τ) ∧ Frs σ τ) (fun _ a => Memo a n K E P B W D V ∧ Frs σ a) (y * md) 0 σ (by omega) (by omega) ⟨hm, Fr.rf _ _⟩ ?_ ?_
  · rintro fu i a hi ⟨hma, hF⟩
    left
    have hC := h.fr hF
    have hD : D < 100 := h.1.2.2.2.2.1
    obtain ⟨z1, z2⟩ := zw_eq z i
    have imd : i % md < md := Nat.mod_lt _ hmd
    obtain ⟨s, g1, g2, g3, g4⟩ := Cagain hC hma z2 (i := i % md) (by omega)
    have hr := hR (zw z i) (min 99 (D + i % md)) z2
    have hl := hd.lt hR i
    have hcnt := sm_le (fnd_le hs w) i
    have q1 : ¬ y * md ≤ i := by omega
    have hmd0 : ¬ nI md = nI 0 := by rw [nI_eq (by omega) (by omega)]; omega
    have hday : f_T_dayBehind (grem (nI i) (nI md)) a = some (nI (min 99 (D + i % md))) := by
      unfold f_T_dayBehind
      rw [hC.1.2.2.2.2.2.1, grem_nI (by omega) hmd (by omega), nI_add]
      exact congrArg some (gmin_nI (a := 99) (by omega) (by omega))
    have s6 : s.1 1 6 = nI n := (g4.1 1 6 rfl).trans hC.1.1.2.1
    -- the count, by what has happened
    have hj : ∀ τ, f_T_drawn_j148 (fun v3 v4 v5 v6 v7 v8 σ => f_T_drawn_L65 fu v3 v4 v5 v6 v7 v8 σ) (nI w) (nI y) (nI md) (zs z (i + 1)) (nI (sm (fnd hs w) i)) (nI i) (nI (hs i)) τ = f_T_drawn_L65 fu (nI w) (nI y) (nI md) (zs z (i + 1)) (nI (sm (fnd hs w) (i + 1))) (nI (i + 1)) τ := by
      intro τ
      show _ = f_T_drawn_L65 fu (nI w) (nI y) (nI md) (zs z (i + 1)) (nI (sm (fnd hs w) i + fnd hs w i)) (nI (i + 1)) τ
      unfold f_T_drawn_j148 f_T_drawn_j173 fnd
      by_cases w6 : w = 6
      · by_cases h0 : hs i = 0
        · simp (maxSteps := 2000000) (disch := omega) only [gupE, gltE, gllE, litE, litLE, bindE, ↓reduceIte, gsi_at, gsi_l2, gsl_at, gsl_i1, upd_at, updL_at, Nat.reduceEqDiff, gix_nI, nI_clamp, bI_0, bI_gzb, Bool.true_eq_false, Bool.false_eq_true, nI_eq, w6, h0, nI_add]
        · simp (maxSteps := 2000000) (disch := omega) only [gupE, gltE, gllE, litE, litLE, bindE, ↓reduceIte, gsi_at, gsi_l2, gsl_at, gsl_i1, upd_at, updL_at, Nat.reduceEqDiff, gix_nI, nI_clamp, bI_0, bI_gzb, Bool.true_eq_false, Bool.false_eq_true, nI_eq, w6, h0, nI_add, Nat.add_zero]
      · cases t : (hs i).testBit w with
        | true => simp (maxSteps := 2000000) (disch := omega) only [gupE, gltE, gllE, litE, litLE, bindE, ↓reduceIte, gsi_at, gsi_l2, gsl_at, gsl_i1, upd_at, updL_at, Nat.reduceEqDiff, gix_nI, nI_clamp, bI_0, bI_gzb, Bool.true_eq_false, Bool.false_eq_true, nI_eq, w6, has_eq, t, nI_add]
        | false => simp (maxSteps := 2000000) (disch := omega) only [gupE, gltE, gllE, litE, litLE, bindE, ↓reduceIte, gsi_at, gsi_l2, gsl_at, gsl_i1, upd_at, updL_at, Nat.reduceEqDiff, gix_nI, nI_clamp, bI_0, bI_gzb, Bool.true_eq_false, Bool.false_eq_true, nI_eq, w6, has_eq, t, nI_add, Nat.add_zero]
    have hz : zs z i * nI 1103515245 + nI 12345 = zs z (i + 1) := rfl
    by_cases n0 : n = 0
    · have e0 : hs i = 0 := by
        have := hd i
        rwa [if_pos n0] at this
      refine ⟨s, ?_, g3, hF.tr g4⟩
      have hj' := hj s
      rw [e0] at hj'
      show f_T_drawn_L65 (fu + 1) (nI w) (nI y) (nI md) (zs z i) (nI (sm (fnd hs w) i)) (nI i) a = _
      rw [← hj']
      have s60 : s.1 1 6 = nI 0 := by rw [s6, n0]
      simp (disch := omega) only [f_T_drawn_L65, litE, mm, nI_leI, q1, ↓reduceIte, gltE, hz, hmd0, hday, bindE, z1, g1, s60]
    · have e1 : Bits (hs i) (Hp n (sy V K E P B (zw z i) (min 99 (D + i % md))) K W (fun j => j ≠ za z n i)) := by
        have := hd i
        rwa [if_neg n0] at this
      obtain ⟨a1, a2⟩ := za_eq z (show 0 < n by omega) hn i
      obtain ⟨x, τ, b1, b2, b3⟩ := Chappened g2 hr (x := za z n i) (by omega)
      have hx := b2.eq e1
      rw [hx] at b1
      have F3 : Frs s τ := fr_no b3 (only_s (by omega))
      refine ⟨τ, ?_, fun w' a' hw' ha' => ?_, hF.tr (g4.tr F3)⟩
      · show f_T_drawn_L65 (fu + 1) (nI w) (nI y) (nI md) (zs z i) (nI (sm (fnd hs w) i)) (nI i) a = _
        rw [← hj τ]
        have n0' : ¬ nI n = nI 0 := by rw [nI_eq (by omega) (by omega)]; exact n0
        simp (disch := omega) only [f_T_drawn_L65, litE, mm, nI_leI, q1, ↓reduceIte, gltE, hz, hmd0, hday, bindE, z1, g1, s6, n0', a1, b1]
      · have hks : KS s n K W → KS τ n K W := fun hk => ⟨(only_ne b3 (by decide) 2).trans hk.1, (only_ne b3 (by decide) 3).trans hk.2.1, fun j hj => (only_ne b3 (by decide) j).trans (hk.2.2 j hj)⟩
        rw [only_ne b3 (by decide)]
        rcases g3 w' a' hw' ha' with q | ⟨q, hk⟩
        · exact Or.inl q
        · exact Or.inr ⟨q, hks hk⟩
  · rintro fu a ⟨hma, hF⟩
    refine ⟨a, ?_, hF⟩
    have q1 : nI (y * md) ≤ nI (y * md) := Int32.le_refl _
    simp (disch := omega) only [f_T_drawn_L65, litE, mm, q1, ↓reduceIte]
theorem Mdrawn_L {σ : gS} {n : Nat} {K E P : Nat → Nat} {B : Nat → Int32} {F W D : Nat} {V : VT} (h : CtM σ n K E P B F W D V) {z v : Int32} {y md w : Nat} (hqv : v / nI 100 = nI y) (hrv : grem v (nI 100) = nI md) (hy : y ≤ 30) (hmd : 0 < md) (hmd2 : md ≤ 40) (hw : w < 7) {hs : Nat → Nat} (hd : Dr n V K E P B W D z md hs) :
    ∃ τ, f_M_drawn_L57 gfu v (nI w) z (nI 0) (nI 0) σ = some (nI (sm (fnd hs w) (y * md)), τ) ∧ Fr cSy σ τ := by
  have hn := h.1.1.1
  have hR : ∀ w d, w < 6 → Rg n (sy V K E P B w d) K W := fun w d hw => sy_rg h.1 hw
  have hym : y * md ≤ 30 * 40 := Nat.mul_le_mul hy hmd2
  have h0md : 0 * md = 0 := Nat.zero_mul md
  suffices H : ∃ τ, f_M_drawn_L57 gfu v (nI w) (zs z (0 * md)) (nI (sm (fnd hs w) (0 * md))) (nI 0) σ = some (nI (sm (fnd hs w) (y * md)), τ) ∧ Fr cSy σ τ by
    rw [h0md] at H
    exact H
  refine loopG (fun fu i (a : gS) => f_M_drawn_L57 fu v (nI w) (zs z (i * md)) (nI (sm (fnd hs w) (i * md))) (nI i) a) (fun o => ∃ τ, o = some (nI (sm (fnd hs w) (y * md)), τ) ∧ Fr cSy σ τ) (fun _ a => Fr cSy σ a) y 0 σ (by omega) (by omega) (Fr.rf _ _) ?_ ?_
  · rintro fu i a hi hF
    left
    have q0 : ¬ y ≤ i := by omega
    have him : (i + 1) * md = i * md + md := Nat.succ_mul i md
    have hle : (i + 1) * md ≤ y * md := Nat.mul_le_mul_right _ hi
    have inner := loopG (fun g j (s : gS) => f_M_drawn_L69 (fun v2 v3 v4 v5 v6 σ => f_M_drawn_L57 fu v2 v3 v4 v5 v6 σ) g v (nI w) (zs z (i * md + j)) (nI (sm (fnd hs w) (i * md + j))) (nI i) (nI j) s) (fun o => ∃ τ, o = f_M_drawn_L57 fu v (nI w) (zs z ((i + 1) * md)) (nI (sm (fnd hs w) ((i + 1) * md))) (nI (i + 1)) τ ∧ Fr cSy σ τ) (fun _ s => Fr cSy σ s) md 0 a (by omega) (by omega) hF ?_ ?_
    · obtain ⟨τ, e1, e2⟩ := inner
      refine ⟨τ, ?_, e2⟩
      rw [← e1]
      simp (disch := omega) only [f_M_drawn_L57, litE, hqv, nI_leI, q0, ↓reduceIte]
      rfl
    · rintro g j s hj hFs
      left
      obtain ⟨k, hk⟩ : ∃ k, k = i * md + j := ⟨_, rfl⟩
      have hC := h.sy hFs
      have hD : D < 100 := h.1.2.2.2.2.1
      obtain ⟨z1, z2⟩ := zw_eq z k
      have kmd : k % md = j := by
        rw [hk, Nat.mul_comm, Nat.mul_add_mod]
        exact Nat.mod_eq_of_lt hj
      obtain ⟨t, e1, e2, e3⟩ := MallSay hC.1 hC.2 (w := zw z k) (d := min 99 (D + j)) z2 (by omega)
      have hr := hR (zw z k) (min 99 (D + j)) z2
      have hl := hd.lt hR k
      have hcnt := sm_le (fnd_le hs w) k
      have q1 : ¬ md ≤ j := by omega
      have s42 : s.1 60 42 = nI D := hC.1.2.2.2.2.2
      have hz : zs z k * nI 1103515245 + nI 12345 = zs z (k + 1) := rfl
      have k1 : i * md + (j + 1) = k + 1 := by omega
      show ∃ a', f_M_drawn_L69 (fun v2 v3 v4 v5 v6 σ => f_M_drawn_L57 fu v2 v3 v4 v5 v6 σ) (g + 1) v (nI w) (zs z (i * md + j)) (nI (sm (fnd hs w) (i * md + j))) (nI i) (nI j) s = f_M_drawn_L69 (fun v2 v3 v4 v5 v6 σ => f_M_drawn_L57 fu v2 v3 v4 v5 v6 σ) g v (nI w) (zs z (i * md + (j + 1))) (nI (sm (fnd hs w) (i * md + (j + 1)))) (nI i) (nI (j + 1)) a' ∧ Fr cSy σ a'
      rw [k1, ← hk]
      have hjj : ∀ τ, f_M_drawn_j149 (fun v2 v3 v4 v5 v6 σ => f_M_drawn_L57 fu v2 v3 v4 v5 v6 σ) (fun v2 v3 v4 v5 v6 v7 σ => f_M_drawn_L69 (fun v2 v3 v4 v5 v6 σ => f_M_drawn_L57 fu v2 v3 v4 v5 v6 σ) g v2 v3 v4 v5 v6 v7 σ) v (nI w) (zs z (k + 1)) (nI (sm (fnd hs w) k)) (nI i) (nI j) (nI (hs k)) τ = f_M_drawn_L69 (fun v2 v3 v4 v5 v6 σ => f_M_drawn_L57 fu v2 v3 v4 v5 v6 σ) g v (nI w) (zs z (k + 1)) (nI (sm (fnd hs w) (k + 1))) (nI i) (nI (j + 1)) τ := by
        intro τ
        show _ = f_M_drawn_L69 (fun v2 v3 v4 v5 v6 σ => f_M_drawn_L57 fu v2 v3 v4 v5 v6 σ) g v (nI w) (zs z (k + 1)) (nI (sm (fnd hs w) k + fnd hs w k)) (nI i) (nI (j + 1)) τ
        unfold f_M_drawn_j149 f_M_drawn_j178 fnd
        by_cases w6 : w = 6
        · by_cases h0 : hs k = 0
          · simp (maxSteps := 2000000) (disch := omega) only [gupE, gltE, gllE, litE, litLE, bindE, ↓reduceIte, gsi_at, gsi_l2, gsl_at, gsl_i1, upd_at, updL_at, Nat.reduceEqDiff, gix_nI, nI_clamp, bI_0, bI_gzb, Bool.true_eq_false, Bool.false_eq_true, nI_eq, w6, h0, nI_add]
          · simp (maxSteps := 2000000) (disch := omega) only [gupE, gltE, gllE, litE, litLE, bindE, ↓reduceIte, gsi_at, gsi_l2, gsl_at, gsl_i1, upd_at, updL_at, Nat.reduceEqDiff, gix_nI, nI_clamp, bI_0, bI_gzb, Bool.true_eq_false, Bool.false_eq_true, nI_eq, w6, h0, nI_add, Nat.add_zero]
        · cases t : (hs k).testBit w with
          | true => simp (maxSteps := 2000000) (disch := omega) only [gupE, gltE, gllE, litE, litLE, bindE, ↓reduceIte, gsi_at, gsi_l2, gsl_at, gsl_i1, upd_at, updL_at, Nat.reduceEqDiff, gix_nI, nI_clamp, bI_0, bI_gzb, Bool.true_eq_false, Bool.false_eq_true, nI_eq, w6, sshN, and1, tb_mod, t, nI_add]
          | false => simp (maxSteps := 2000000) (disch := omega) only [gupE, gltE, gllE, litE, litLE, bindE, ↓reduceIte, gsi_at, gsi_l2, gsl_at, gsl_i1, upd_at, updL_at, Nat.reduceEqDiff, gix_nI, nI_clamp, bI_0, bI_gzb, Bool.true_eq_false, Bool.false_eq_true, nI_eq, w6, sshN, and1, tb_mod, t, nI_add, Nat.add_zero]
      have t6 : t.1 59 6 = nI n := e2.1.1
      refine ⟨t, ?_, hFs.tr e3⟩
      rw [← hjj t]
      by_cases n0 : n = 0
      · have e0 : hs k = 0 := by
          have := hd k
          rwa [if_pos n0] at this
        have t60 : t.1 59 6 = nI 0 := by rw [t6, n0]
        rw [e0]
        simp (disch := omega) only [f_M_drawn_L69, litE, hrv, nI_leI, q1, ↓reduceIte, gltE, hz, s42, nI_add, dayOf_eq, bindE, z1, e1, t60]
      · have e4 : Bits (hs k) (Hp n (sy V K E P B (zw z k) (min 99 (D + k % md))) K W (fun j => j ≠ za z n k)) := by
          have := hd k
          rwa [if_neg n0] at this
        rw [kmd] at e4
        obtain ⟨a1, a2⟩ := za_eq z (show 0 < n by omega) hn k
        have n0' : ¬ nI n = nI 0 := by rw [nI_eq (by omega) (by omega)]; exact n0
        have hfull := full_lt hn
        obtain ⟨mk, hmk⟩ : ∃ mk, mk = (2 ^ n - 1) &&& (2 ^ za z n k ^^^ 4294967295) := ⟨_, rfl⟩
        have hmkl : mk < 1024 := by
          rw [hmk]
          exact Nat.lt_of_le_of_lt Nat.and_le_left hfull
        obtain ⟨x, b1, b2⟩ := Mhappened e2 hr (m := mk) (by omega)
        have b3 : Bits x (Hp n (sy V K E P B (zw z k) (min 99 (D + j))) K W (fun j => j ≠ za z n k)) := b2.cg (Hp.cg fun l hl => by
          rw [hmk, Nat.testBit_and, Nat.testBit_xor, Nat.testBit_two_pow, tb_full.mpr hl, show 4294967295 = 2 ^ 32 - 1 from rfl, tb_full.mpr (show l < 32 by omega)]
          by_cases q : za z n k = l
          · rw [decide_eq_true q]
            constructor
            · intro y; cases y
            · intro y; exact absurd q.symm y
          · rw [decide_eq_false q]
            constructor
            · intro _ y; exact q y.symm
            · intro _; rfl)
        rw [b3.eq e4] at b1
        have hmask : nI (2 ^ n - 1) &&& (nI 1 <<< (nI (za z n k) &&& nI 31) ^^^ -nI 1) = nI mk := by
          rw [sh1 (by omega), nI_m1, nI_xor, nI_and, ← hmk]
        simp (disch := omega) only [f_M_drawn_L69, litE, hrv, nI_leI, q1, ↓reduceIte, gltE, hz, s42, nI_add, dayOf_eq, bindE, z1, e1, t6, n0', Meverybody e2.1.1 hn, a1, hmask, b1]
    · rintro g s hFs
      refine ⟨s, ?_, hFs⟩
      have q1 : nI md ≤ nI md := Int32.le_refl _
      rw [him]
      simp (disch := omega) only [f_M_drawn_L69, litE, hrv, q1, ↓reduceIte, nI_add]
  · rintro fu a hF
    refine ⟨a, ?_, hF⟩
    have q1 : nI y ≤ nI y := Int32.le_refl _
    simp (disch := omega) only [f_M_drawn_L57, litE, hqv, q1, ↓reduceIte]
theorem ag_drawn (v1 v2 v3 : Int32) : Agr (f_T_drawn v1 v2 v3) (f_M_drawn v1 v2 v3) := by
  refine agr_q fun σ n K E P B F W D m V h => ?_
  have hn := h.1.1.1
  unfold f_T_drawn f_M_drawn
  -- nm below 0
  by_cases h0 : v2.toInt < 0
  · have hlt : v2 < 0 := by
      show v2 < nI 0
      rw [i_lt, nI_toInt (by decide)]
      exact h0
    have hq : v2 / 100 < 1 := by
      rw [Int32.lt_iff_toInt_lt, Int32.toInt_div]
      have e100 : (100 : Int32).toInt = 100 := by decide
      have e1 : (1 : Int32).toInt = 1 := by decide
      rw [e100, e1]
      have h3 := Int32.le_toInt v2
      have hneg : v2.toInt.tdiv 100 = -((-v2.toInt).tdiv 100) := by
        have := Int.neg_tdiv (-v2.toInt) 100
        rw [Int.neg_neg] at this
        exact this
      have h7 : 0 ≤ (-v2.toInt).tdiv 100 := Int.tdiv_nonneg (by omega) (by decide)
      have h6 : (-v2.toInt).tdiv 100 ≤ -v2.toInt := Int.tdiv_le_self _ (by omega)
      have h5 : (v2.toInt.tdiv 100).bmod (2 ^ 32) = v2.toInt.tdiv 100 := Int.bmod_eq_of_le (by omega) (by omega)
      rw [h5]
      omega
    refine ⟨-nI 1, ⟨σ, ?_, Fr.rf _ _⟩, fun τ hF hC => ⟨τ, ?_, Fr.rf _ _⟩⟩
    · rw [gltE, gltE, if_pos hq]
      rfl
    · rw [if_pos hlt]
      rfl
  · obtain ⟨j, hj, rfl⟩ := nonneg_nI (v := v2) (by omega)
    have hnl : ¬ nI j < 0 := nI_pos (by omega)
    have hqv : nI j / nI 100 = nI (j / 100) := pk_div (by omega) (by decide) (by decide)
    have hrv : grem (nI j) (nI 100) = nI (j % 100) := grem_nI hj (by decide) (by decide)
    have hq1 : nI j / 100 = nI (j / 100) := hqv
    have hr1 : grem (nI j) 100 = nI (j % 100) := hrv
    have c1 : (nI (j / 100) < 1) = (j / 100 < 1) := propext (nI_ltI (b := 1) (by omega) (by decide))
    have c2 : ((30 : Int32) < nI (j / 100)) = (30 < j / 100) := propext (nI_ltI (a := 30) (by decide) (by omega))
    have c3 : (nI (j % 100) < 1) = (j % 100 < 1) := propext (nI_ltI (b := 1) (by omega) (by decide))
    have c4 : ((40 : Int32) < nI (j % 100)) = (40 < j % 100) := propext (nI_ltI (a := 40) (by decide) (by omega))
    have m1 : f_M_within (nI (j / 100)).toInt64 1 30 = some (bI (decide (1 ≤ j / 100 ∧ j / 100 ≤ 30))) := by
      have := Mwithin_i (nI (j / 100)) (a := 1) (b := 30) (by decide) (by decide)
      rw [nI_toInt (by omega)] at this
      rw [show decide (1 ≤ j / 100 ∧ j / 100 ≤ 30) = (decide (((1 : Nat) : Int) ≤ ((j / 100 : Nat) : Int)) && decide (((j / 100 : Nat) : Int) ≤ ((30 : Nat) : Int))) by
        by_cases a1 : 1 ≤ j / 100
        · by_cases a2 : j / 100 ≤ 30
          · rw [decide_eq_true ⟨a1, a2⟩, decide_eq_true (by omega), decide_eq_true (by omega)]
            rfl
          · rw [decide_eq_false (fun q => a2 q.2), decide_eq_true (by omega), decide_eq_false (by omega)]
            rfl
        · rw [decide_eq_false (fun q => a1 q.1), decide_eq_false (by omega)]
          rfl]
      exact this
    have m2 : f_M_within (nI (j % 100)).toInt64 1 40 = some (bI (decide (1 ≤ j % 100 ∧ j % 100 ≤ 40))) := by
      have := Mwithin_i (nI (j % 100)) (a := 1) (b := 40) (by decide) (by decide)
      rw [nI_toInt (by omega)] at this
      rw [show decide (1 ≤ j % 100 ∧ j % 100 ≤ 40) = (decide (((1 : Nat) : Int) ≤ ((j % 100 : Nat) : Int)) && decide (((j % 100 : Nat) : Int) ≤ ((40 : Nat) : Int))) by
        by_cases a1 : 1 ≤ j % 100
        · by_cases a2 : j % 100 ≤ 40
          · rw [decide_eq_true ⟨a1, a2⟩, decide_eq_true (by omega), decide_eq_true (by omega)]
            rfl
          · rw [decide_eq_false (fun q => a2 q.2), decide_eq_true (by omega), decide_eq_false (by omega)]
            rfl
        · rw [decide_eq_false (fun q => a1 q.1), decide_eq_false (by omega)]
          rfl]
      exact this
    by_cases g1 : 1 ≤ j / 100 ∧ j / 100 ≤ 30
    · by_cases g2 : 1 ≤ j % 100 ∧ j % 100 ≤ 40
      · cases hv3 : inb v3 7 with
        | false =>
          refine ⟨-nI 1, ⟨σ, ?_, Fr.rf _ _⟩, fun τ hF hC => ⟨τ, ?_, Fr.rf _ _⟩⟩
          · rw [gltE, gltE, hq1, hr1, if_neg (by rw [c1]; omega), if_neg (by rw [c2]; omega), if_neg (by rw [c3]; omega), if_neg (by rw [c4]; omega), show f_T_within v3 7 = some (bI false) from w3_f hv3 (by decide), bindE, if_pos (by decide)]
            rfl
          · rw [if_neg hnl, hq1, m1, bindE, decide_eq_true g1, if_neg (by decide), hr1, m2, bindE, decide_eq_true g2, if_neg (by decide), show f_M_within v3.toInt64 0 6 = some (bI false) from m3_f hv3 (by decide), bindE, if_pos (by decide)]
            rfl
        | true =>
          obtain ⟨w, hw, rfl⟩ := inb_of hv3 (by omega)
          obtain ⟨hs, hhs⟩ := Dr.ex n V K E P B W D v1 (j % 100) (fun w d hw => sy_rg h.1.pm hw)
          obtain ⟨s, hs1⟩ : ∃ s, s = gsi σ 17 (fun i => if i < 240 then -nI 1 else σ.1 17 i) := ⟨_, rfl⟩
          have F1 : Frs σ s := by
            rw [hs1]
            exact (Fr.rf _ σ).si (fun k => rfl)
          have hfg : f_Cr_forget 11 σ = some s := by
            unfold f_Cr_forget f_JA_fill
            rw [hs1]
            simp only [litE, bindE]
          have hmemo : Memo s n K E P B W D V := fun w a hw ha => by
            left
            rw [hs1, gsi_at, if_pos rfl, if_pos (by omega)]
            rfl
          obtain ⟨τ1, a1, a2⟩ := Tdrawn_L (h.fr F1) hmemo (z := v1) (y := j / 100) (md := j % 100) (by omega) (by omega) (by omega) hw hhs
          refine ⟨nI (sm (fnd hs w) (j / 100 * (j % 100))), ⟨τ1, ?_, F1.tr a2⟩, fun τ hF hC => ?_⟩
          · rw [gltE, gltE, hq1, hr1, if_neg (by rw [c1]; omega), if_neg (by rw [c2]; omega), if_neg (by rw [c3]; omega), if_neg (by rw [c4]; omega), show f_T_within (nI w) 7 = some (bI true) from w3_t hv3 (by decide), bindE, if_neg (by decide), hfg, bindE, ← a1]
            rfl
          · obtain ⟨υ, b1, b2⟩ := Mdrawn_L ⟨hC.1.pm, hC.2.1⟩ (z := v1) hqv hrv (by omega) (by omega) (by omega) hw hhs
            refine ⟨υ, ?_, fr_no b2 cSy_s⟩
            rw [if_neg hnl, hq1, m1, bindE, decide_eq_true g1, if_neg (by decide), hr1, m2, bindE, decide_eq_true g2, if_neg (by decide), show f_M_within (nI w).toInt64 0 6 = some (bI true) from m3_t hv3 (by decide), bindE, if_neg (by decide), ← b1]
            rfl
      · refine ⟨-nI 1, ⟨σ, ?_, Fr.rf _ _⟩, fun τ hF hC => ⟨τ, ?_, Fr.rf _ _⟩⟩
        · rw [gltE, gltE, hq1, hr1, if_neg (by rw [c1]; omega), if_neg (by rw [c2]; omega)]
          by_cases g3 : j % 100 < 1
          · rw [if_pos (by rw [c3]; exact g3)]
            rfl
          · rw [if_neg (by rw [c3]; exact g3), if_pos (by rw [c4]; omega)]
            rfl
        · rw [if_neg hnl, hq1, m1, bindE, decide_eq_true g1, if_neg (by decide), hr1, m2, bindE, decide_eq_false g2, if_pos (by decide)]
          rfl
    · refine ⟨-nI 1, ⟨σ, ?_, Fr.rf _ _⟩, fun τ hF hC => ⟨τ, ?_, Fr.rf _ _⟩⟩
      · rw [gltE, gltE, hq1, hr1]
        by_cases g3 : j / 100 < 1
        · rw [if_pos (by rw [c1]; exact g3)]
          rfl
        · rw [if_neg (by rw [c1]; exact g3), if_pos (by rw [c2]; omega)]
          rfl
      · rw [if_neg hnl, hq1, m1, bindE, decide_eq_false g1, if_pos (by decide)]
        rfl
