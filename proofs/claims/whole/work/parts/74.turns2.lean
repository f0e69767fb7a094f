/-! pure: byTurns, the reference; both agree -/
def Tm (B : Nat → Int32) (mask : Nat) : Nat → Bool := fun j => decide ((B j).toInt < 0) && !mask.testBit j
theorem Tm_or (B : Nat → Int32) (mask c : Nat) : Tm B (mask ||| 2 ^ c) = tcl (Tm B mask) c := by
  funext j
  show (decide ((B j).toInt < 0) && !(mask ||| 2 ^ c).testBit j) = ((decide ((B j).toInt < 0) && !mask.testBit j) && !decide (j = c))
  rw [Nat.testBit_or, Nat.testBit_two_pow, decide_eq_decide.mpr (eq_comm (a := c) (b := j))]
  cases decide ((B j).toInt < 0) <;> cases mask.testBit j <;> cases decide (j = c) <;> rfl
def MR (σ : gS) (n : Nat) (s K P : Nat → Nat) (W : Nat) (B : Nat → Int32) : Prop := MS σ n s K W ∧ (∀ j, j < n → σ.1 60 (20 + j) = nI (P j)) ∧ ∀ j, j < n → σ.1 60 (30 + j) = B j
theorem MR.set {σ : gS} {n : Nat} {s K P : Nat → Nat} {W : Nat} {B : Nat → Int32} (h : MR σ n s K P W B) (c v : Nat) : MR (gpi σ 67 c (nI v)) n (sset s c v) K P W B := by
  refine ⟨⟨h.1.1, fun j hj => ⟨?_, (h.1.2 j hj).2⟩⟩, h.2.1, h.2.2⟩
  rw [gpi_at]
  unfold sset
  by_cases q : j = c
  · rw [if_pos ⟨rfl, q⟩, if_pos q]
  · rw [if_neg fun z => q z.2, if_neg q]
    exact (h.1.2 j hj).1
theorem sset_back (s : Nat → Nat) (c v : Nat) : sset (sset s c v) c (s c) = s := by
  funext j
  unfold sset
  by_cases q : j = c
  · rw [if_pos q, q]
  · rw [if_neg q, if_neg q]
theorem Bge {B : Nat → Int32} {j mask : Nat} (h : Tm B mask j = true) : ¬ nI 0 ≤ B j ∧ mask.testBit j = false := by
  unfold Tm at h
  simp only [Bool.and_eq_true, decide_eq_true_eq, Bool.not_eq_true'] at h
  refine ⟨?_, h.2⟩
  rw [i_le, nI_toInt (by decide)]
  omega
theorem Blt {B : Nat → Int32} {j mask : Nat} (h : Tm B mask j = false) : nI 0 ≤ B j ∨ ¬ nI 0 ≤ B j ∧ mask.testBit j = true := by
  unfold Tm at h
  by_cases q : (B j).toInt < 0
  · rw [decide_eq_true q] at h
    right
    refine ⟨?_, by simpa using h⟩
    rw [i_le, nI_toInt (by decide)]
    omega
  · left
    rw [i_le, nI_toInt (by decide)]
    omega
theorem Mplay {n W w N : Nat} {K P : Nat → Nat} {B : Nat → Int32} {lf : (Nat → Nat) → Bool} (hP : ∀ j, j < n → P j < 100) (hw : w < 6) (hN : N ≤ 4) (hlf : ∀ s, lf s = true ↔ Hp n s K W (fun _ => True) w) : ∀ (r t f mask : Nat) (s : Nat → Nat) (σ : gS), t + r = N → r < f → mask < 1024 → MR σ n s K P W B → Rg n s K W →
    ∃ τ, f_M_playsFrom f (nI w) (nI t) (nI N) (nI mask) σ = some (zI (gv n w P lf r t s (Tm B mask)), τ) ∧ MR τ n s K P W B ∧ Fr (only 67) σ τ
  | 0, t, f + 1, mask, s, σ, htr, hf, hm, h, hR => by
    have hn := hR.1
    obtain ⟨y, e1, e2⟩ := Mall_h h.1 hR
    have hy : y < 64 := e2.lt6 (Hp.lt hR)
    have hb : lf s = y.testBit w := by
      have := (hlf s).trans (e2 w).symm
      cases e : y.testBit w <;> cases e' : lf s <;> simp_all
    refine ⟨σ, ?_, h, Fr.rf _ _⟩
    show fo_M_playsFrom (fun v1 v2 v3 v4 σ => f_M_playsFrom f v1 v2 v3 v4 σ) (nI w) (nI t) (nI N) (nI mask) σ = _
    unfold fo_M_playsFrom
    simp only [litE, gv]
    have ht : t = N := by omega
    rw [ht, if_pos rfl, Meverybody h.1.1.1 hn, bindE, e1, bindE, isIn_eq (by omega) (by omega), bindE, hb]
    cases y.testBit w with
    | false => rw [if_pos (by decide), zI_nI]; rfl
    | true => rw [if_neg (by decide), zI_nI]; rfl
  | r + 1, t, f + 1, mask, s, σ, htr, hf, hm, h, hR => by
    have IH := Mplay (B := B) hP hw hN hlf r (t + 1) f
    have hn := hR.1
    obtain ⟨τ0, a1, a2, a3⟩ := IH mask s σ (by omega) (by omega) hm h hR
    have hx := gv_b (w := w) (lf := lf) hP r (t + 1)
    have hgo : f_M_playsFrom (f + 1) (nI w) (nI t) (nI N) (nI mask) σ = f_M_playsFrom_L43 (fun v1 v2 v3 v4 σ => f_M_playsFrom f v1 v2 v3 v4 σ) gfu (nI w) (nI t) (nI N) (nI mask) (zI (gv n w P lf r (t + 1) s (Tm B mask))) (nI 0) τ0 := by
      show fo_M_playsFrom (fun v1 v2 v3 v4 σ => f_M_playsFrom f v1 v2 v3 v4 σ) (nI w) (nI t) (nI N) (nI mask) σ = _
      unfold fo_M_playsFrom
      simp only [litE]
      rw [if_neg (show ¬ nI t = nI N by rw [nI_eq (by omega) (by omega)]; omega), nI_add, a1, bindE]
    rw [hgo]
    have hsw : swt w t < 6 := by
      unfold swt
      split <;> omega
    have hXb := hx s (Tm B mask)
    have hX : gv n w P lf r (t + 1) s (Tm B mask) = gv n w P lf r (t + 1) s (Tm B mask) := rfl
    generalize hm' : (fun c => gv n w P lf r (t + 1) (sset s c (swt w t)) (tcl (Tm B mask) c) + prt P t c) = m
    have hgv : gv n w P lf (r + 1) t s (Tm B mask) = gfd (evn t) (Tm B mask) (gv n w P lf r (t + 1) s (Tm B mask)) m n := by
      simp only [gv]
      rw [hm']
    have hmc : ∀ c, m c = gv n w P lf r (t + 1) (sset s c (swt w t)) (tcl (Tm B mask) c) + prt P t c := fun c => by rw [← hm']
    rw [hgv]
    generalize gv n w P lf r (t + 1) s (Tm B mask) = X at hXb
    generalize hkb : (fun v1 v2 v3 v4 σ => f_M_playsFrom f v1 v2 v3 v4 σ) = kb
    refine loopG (fun fu i (a : Int × gS) => f_M_playsFrom_L43 kb fu (nI w) (nI t) (nI N) (nI mask) (zI a.1) (nI i) a.2)
      (fun o => ∃ τ, o = some (zI (gfd (evn t) (Tm B mask) X m n), τ) ∧ MR τ n s K P W B ∧ Fr (only 67) σ τ)
      (fun i a => a.1 = gfd (evn t) (Tm B mask) X m i ∧ MR a.2 n s K P W B ∧ Fr (only 67) σ a.2) n 0 (X, τ0) (by omega) (by omega) ⟨rfl, a2, a3⟩ ?_ ?_
    · rintro fu i ⟨b, υ⟩ hi ⟨b1, b2, b3⟩
      simp only at b1 b2 b3
      left
      have u6 : υ.1 59 6 = nI n := b2.1.1.1
      have uB := b2.2.2 i hi
      cases ti : Tm B mask i with
      | false =>
        have e1 : gfd (evn t) (Tm B mask) X m (i + 1) = gfd (evn t) (Tm B mask) X m i := by
          simp only [gfd, ti, Bool.false_eq_true, ↓reduceIte]
        refine ⟨(b, υ), ?_, by rw [e1]; exact b1, b2, b3⟩
        rw [f_M_playsFrom_L43]
        simp only [litE]
        rw [u6, if_neg (nI_ge hi (by omega)), nI_add, if_pos (gix_nI (by omega) (by decide)), nI_clamp (by omega), uB]
        rcases Blt ti with q | ⟨q, q2⟩
        · rw [if_pos q, nI_add]
        · rw [if_neg q, isIn_eq (by omega) (by omega), q2, bindE, if_neg (show ¬ bI true = nI 0 by decide), nI_add]
      | true =>
        obtain ⟨q, q2⟩ := Bge ti
        have hor : mask ||| 2 ^ i < 1024 := Nat.or_lt_two_pow (n := 10) hm (Nat.pow_lt_pow_right (by decide) (by omega))
        obtain ⟨τ2, c1, c2, c3⟩ := IH (mask ||| 2 ^ i) _ _ (by omega) (by omega) hor (b2.set i (swt w t)) (hR.set hsw)
        rw [Tm_or] at c1
        have hmi := hmc i
        generalize gv n w P lf r (t + 1) (sset s i (swt w t)) (tcl (Tm B mask) i) = Y at c1 hmi
        have hback := c2.set i (s i)
        rw [sset_back] at hback
        have uP := c2.2.1 i hi
        have us := (b2.1.2 i hi).1
        have hPi := hP i hi
        have hgb := gfd_b (ev := evn t) (T := Tm B mask) (x := X) (A := 1000) (m := m) (by omega) i fun j hj => by
          have h1 := hx (sset s j (swt w t)) (tcl (Tm B mask) j)
          have h2 := prt_b (t := t) (hP j (by omega))
          rw [hmc j]
          omega
        have hmib : -1000 ≤ m i ∧ m i ≤ 1000 := by
          have h1 := hx (sset s i (swt w t)) (tcl (Tm B mask) i)
          have h2 := prt_b (t := t) hPi
          rw [hmc i]
          omega
        have c1 : kb (nI w) (nI (t + 1)) (nI N) (nI (mask ||| 2 ^ i)) (gpi υ 67 i (nI (swt w t))) = some (zI Y, τ2) := by
          rw [← hkb]
          exact c1
        refine ⟨(gfd (evn t) (Tm B mask) X m (i + 1), gpi τ2 67 i (nI (s i))), ?_, rfl, hback, ((b3.pi rfl).tr c3).pi rfl⟩
        rw [f_M_playsFrom_L43]
        simp only [litE]
        rw [u6, if_neg (nI_ge hi (by omega)), nI_add, if_pos (gix_nI (by omega) (by decide)), nI_clamp (by omega), uB, if_neg q, isIn_eq (by omega) (by omega), q2, bindE, if_pos (show bI false = nI 0 by decide), if_pos (gix_nI (by omega) (by decide)), nI_clamp (by omega), gltE, us, grem_nI (by omega) (by decide) (by decide)]
        by_cases ev : t % 2 = 0
        · have eev : evn t = true := decide_eq_true ev
          have es : swt w t = w := if_pos ev
          have ep : zI Y + -nI (P i) = zI (m i) := by
            rw [zI_nI, zI_neg, zI_add, hmi]
            unfold prt
            rw [if_pos ev]
          have eg : gfd (evn t) (Tm B mask) X m (i + 1) = if m i ≤ b then b else m i := by
            simp only [gfd, ti, gst, eev, ↓reduceIte] at b1 ⊢
            rw [← b1]
            split <;> omega
          rw [ev, if_pos rfl]
          unfold f_M_playsFrom_j106
          simp only [litE]
          rw [if_pos (gix_nI (by omega) (by decide)), gupE, nI_clamp (by omega), nI_add, sh1 (by omega), nI_or]
          rw [show gpi υ 67 i (nI w) = gpi υ 67 i (nI (swt w t)) by rw [es]]
          rw [c1, bindE, grem_nI (by omega) (by decide) (by decide), ev, if_pos rfl, nI_add, if_pos (gix_nI (by omega) (by decide)), nI_clamp (by omega), uP]
          unfold f_M_playsFrom_j153
          simp only [litE]
          rw [if_pos (gix_nI (by omega) (by decide)), gupE, nI_clamp (by omega), grem_nI (by omega) (by decide) (by decide), ev, if_pos rfl, ep]
          unfold f_M_playsFrom_j202
          simp only [litE]
          rw [eg, nI_add]
          by_cases le : m i ≤ b
          · rw [if_pos (zle (by omega) (by omega) le), if_pos le]
          · rw [if_neg (zgt (by omega) (by omega) le), if_neg le]
        · have eev : evn t = false := decide_eq_false ev
          have es : swt w t = (w + 1) % 6 := if_neg ev
          have hnt : ¬ nI (t % 2) = nI 0 := by
            rw [nI_eq (by omega) (by omega)]
            exact ev
          have ep : zI Y + nI (P i) = zI (m i) := by
            rw [zI_nI, zI_add, hmi]
            unfold prt
            rw [if_neg ev]
          have eg : gfd (evn t) (Tm B mask) X m (i + 1) = if b ≤ m i then b else m i := by
            simp only [gfd, ti, gst, eev, ↓reduceIte, Bool.false_eq_true] at b1 ⊢
            rw [← b1]
            split <;> omega
          rw [if_neg hnt]
          unfold f_M_playsFrom_j106
          simp only [litE]
          rw [if_pos (gix_nI (by omega) (by decide)), gupE, nI_clamp (by omega), nI_add, sh1 (by omega), nI_or, nI_add, grem_nI (by omega) (by decide) (by decide)]
          rw [show gpi υ 67 i (nI ((w + 1) % 6)) = gpi υ 67 i (nI (swt w t)) by rw [es]]
          rw [c1, bindE, grem_nI (by omega) (by decide) (by decide), if_neg hnt, nI_add, if_pos (gix_nI (by omega) (by decide)), nI_clamp (by omega), uP]
          unfold f_M_playsFrom_j153
          simp only [litE]
          rw [if_pos (gix_nI (by omega) (by decide)), gupE, nI_clamp (by omega), grem_nI (by omega) (by decide) (by decide), if_neg hnt, ep]
          unfold f_M_playsFrom_j202
          simp only [litE]
          rw [eg, nI_add]
          by_cases le : b ≤ m i
          · rw [if_pos (zle (by omega) (by omega) le), if_pos le]
          · rw [if_neg (zgt (by omega) (by omega) le), if_neg le]
    · rintro fu ⟨b, υ⟩ ⟨b1, b2, b3⟩
      simp only at b1 b2 b3
      refine ⟨υ, ?_, b2, b3⟩
      have u6 : υ.1 59 6 = nI n := b2.1.1.1
      rw [f_M_playsFrom_L43, u6, if_pos (show nI n ≤ nI n from Int32.le_refl _), b1]
