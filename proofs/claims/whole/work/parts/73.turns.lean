/-! pure: byTurns, what is played for; the class -/
def zI (x : Int) : Int32 := Int32.ofInt x
theorem zI_nI (k : Nat) : nI k = zI (k : Int) := by
  apply Int32.toBitVec_inj.1
  show BitVec.ofNat 32 k = BitVec.ofInt 32 (k : Int)
  exact (BitVec.ofInt_natCast 32 k).symm
theorem zI_t {x : Int} (h : -2147483648 ≤ x ∧ x < 2147483648) : (zI x).toInt = x := by
  unfold zI
  rw [Int32.toInt_ofInt, Int.bmod_def]
  simp only [show ((Int32.size : Nat) : Int) = 4294967296 from rfl]
  split <;> omega
theorem zI_add (x y : Int) : zI x + zI y = zI (x + y) := (Int32.ofInt_add x y).symm
theorem zI_neg (x : Int) : -zI x = zI (-x) := (Int32.ofInt_neg x).symm
theorem zI_sub (x y : Int) : zI x - zI y = zI (x - y) := (Int32.ofInt_sub x y).symm
theorem zI_le {x y : Int} (hx : -2147483648 ≤ x ∧ x < 2147483648) (hy : -2147483648 ≤ y ∧ y < 2147483648) : (zI x ≤ zI y) = (x ≤ y) := by
  rw [i_le, zI_t hx, zI_t hy]
theorem zI_lt {x y : Int} (hx : -2147483648 ≤ x ∧ x < 2147483648) (hy : -2147483648 ≤ y ∧ y < 2147483648) : (zI x < zI y) = (x < y) := by
  rw [i_lt, zI_t hx, zI_t hy]
theorem zI_eq {x y : Int} (hx : -2147483648 ≤ x ∧ x < 2147483648) (hy : -2147483648 ≤ y ∧ y < 2147483648) : (zI x = zI y) = (x = y) := by
  apply propext
  constructor
  · intro q
    have := congrArg Int32.toInt q
    rwa [zI_t hx, zI_t hy] at this
  · rintro rfl
    rfl
theorem zlt {x y : Int} (hx : -1000000 ≤ x ∧ x ≤ 1000000) (hy : -1000000 ≤ y ∧ y ≤ 1000000) (h : x < y) : zI x < zI y := by
  rw [zI_lt (by omega) (by omega)]
  exact h
theorem zge {x y : Int} (hx : -1000000 ≤ x ∧ x ≤ 1000000) (hy : -1000000 ≤ y ∧ y ≤ 1000000) (h : ¬ x < y) : ¬ zI x < zI y := by
  rw [zI_lt (by omega) (by omega)]
  exact h
theorem zle {x y : Int} (hx : -1000000 ≤ x ∧ x ≤ 1000000) (hy : -1000000 ≤ y ∧ y ≤ 1000000) (h : x ≤ y) : zI x ≤ zI y := by
  rw [zI_le (by omega) (by omega)]
  exact h
theorem zgt {x y : Int} (hx : -1000000 ≤ x ∧ x ≤ 1000000) (hy : -1000000 ≤ y ∧ y ≤ 1000000) (h : ¬ x ≤ y) : ¬ zI x ≤ zI y := by
  rw [zI_le (by omega) (by omega)]
  exact h
theorem gmaxZ {x y : Int} (hx : -1000000 ≤ x ∧ x ≤ 1000000) (hy : -1000000 ≤ y ∧ y ≤ 1000000) : gmax (zI x) (zI y) = zI (max x y) := by
  unfold gmax
  by_cases q : x < y
  · rw [if_pos (zlt hx hy q), Int.max_eq_right (by omega)]
  · rw [if_neg (zge hx hy q), Int.max_eq_left (by omega)]
theorem gminZ {x y : Int} (hx : -1000000 ≤ x ∧ x ≤ 1000000) (hy : -1000000 ≤ y ∧ y ≤ 1000000) : gmin (zI x) (zI y) = zI (min x y) := by
  unfold gmin
  by_cases q : y < x
  · rw [if_pos (zlt hy hx q), Int.min_eq_right (by omega)]
  · rw [if_neg (zge hy hx q), Int.min_eq_left (by omega)]
def evn (t : Nat) : Bool := decide (t % 2 = 0)
def gst (ev : Bool) (a b : Int) : Int := if ev = true then max a b else min a b
def gfd (ev : Bool) (T : Nat → Bool) (x : Int) (m : Nat → Int) : Nat → Int
  | 0 => x
  | k + 1 => if T k = true then gst ev (gfd ev T x m k) (m k) else gfd ev T x m k
def sset (s : Nat → Nat) (c v : Nat) : Nat → Nat := fun j => if j = c then v else s j
def tcl (T : Nat → Bool) (c : Nat) : Nat → Bool := fun j => T j && !decide (j = c)
def swt (w t : Nat) : Nat := if t % 2 = 0 then w else (w + 1) % 6
def prt (P : Nat → Nat) (t c : Nat) : Int := if t % 2 = 0 then -(P c : Int) else (P c : Int)
def gv (n w : Nat) (P : Nat → Nat) (lf : (Nat → Nat) → Bool) : Nat → Nat → (Nat → Nat) → (Nat → Bool) → Int
  | 0, _, s, _ => if lf s = true then 100 else 0
  | r + 1, t, s, T => gfd (evn t) T (gv n w P lf r (t + 1) s T) (fun c => gv n w P lf r (t + 1) (sset s c (swt w t)) (tcl T c) + prt P t c) n
theorem prt_b {P : Nat → Nat} {t c : Nat} (h : P c < 100) : -100 < prt P t c ∧ prt P t c < 100 := by
  unfold prt
  split <;> omega
theorem gfd_b {ev : Bool} {T : Nat → Bool} {x A : Int} {m : Nat → Int} (hx : -A ≤ x ∧ x ≤ A) : ∀ k, (∀ j, j < k → -A ≤ m j ∧ m j ≤ A) → -A ≤ gfd ev T x m k ∧ gfd ev T x m k ≤ A
  | 0, _ => hx
  | k + 1, h => by
    have h1 := gfd_b (ev := ev) (T := T) hx k fun j hj => h j (by omega)
    have h2 := h k (by omega)
    simp only [gfd]
    split
    · unfold gst
      split <;> omega
    · exact h1
theorem gv_b {n w : Nat} {P : Nat → Nat} {lf : (Nat → Nat) → Bool} (hP : ∀ j, j < n → P j < 100) : ∀ (r t : Nat) (s : Nat → Nat) (T : Nat → Bool), -(100 * ((r : Int) + 1)) ≤ gv n w P lf r t s T ∧ gv n w P lf r t s T ≤ 100 * ((r : Int) + 1)
  | 0, t, s, T => by
    simp only [gv]
    split <;> omega
  | r + 1, t, s, T => by
    have h1 := gv_b (w := w) (lf := lf) hP r
    simp only [gv]
    refine gfd_b ?_ n fun j hj => ?_
    · have := h1 (t + 1) s T
      omega
    · have a := h1 (t + 1) (sset s j (swt w t)) (tcl T j)
      have b := prt_b (t := t) (hP j hj)
      omega
theorem gfd_up {T : Nat → Bool} {x : Int} {m : Nat → Int} {k : Nat} : ∀ d, gfd true T x m k ≤ gfd true T x m (k + d)
  | 0 => Int.le_refl _
  | d + 1 => by
    have h := gfd_up (T := T) (x := x) (m := m) (k := k) d
    show _ ≤ gfd true T x m ((k + d) + 1)
    simp only [gfd, gst, ↓reduceIte]
    split <;> omega
theorem gfd_dn {T : Nat → Bool} {x : Int} {m : Nat → Int} {k : Nat} : ∀ d, gfd false T x m (k + d) ≤ gfd false T x m k
  | 0 => Int.le_refl _
  | d + 1 => by
    have h := gfd_dn (T := T) (x := x) (m := m) (k := k) d
    show gfd false T x m ((k + d) + 1) ≤ _
    simp only [gfd, gst, Bool.false_eq_true, ↓reduceIte]
    split <;> omega
/-- the first whose offer is better than what was best -/
def bsf (T : Nat → Bool) (x : Int) (m : Nat → Int) : Nat → Nat
  | 0 => 10
  | k + 1 => if T k = true ∧ gfd true T x m k < m k then k else bsf T x m k
theorem bsf_is {T : Nat → Bool} {x : Int} {m : Nat → Int} : ∀ k, (gfd true T x m k = x ∧ bsf T x m k = 10) ∨ (x < gfd true T x m k ∧ bsf T x m k < k ∧ T (bsf T x m k) = true ∧ m (bsf T x m k) = gfd true T x m k ∧ ∀ j, j < bsf T x m k → T j = true → m j < gfd true T x m k)
  | 0 => Or.inl ⟨rfl, rfl⟩
  | k + 1 => by
    have h := bsf_is (T := T) (x := x) (m := m) k
    have hall : ∀ k j, j < k → T j = true → m j ≤ gfd true T x m k := by
      intro k j hj tj
      have h1 : m j ≤ gfd true T x m (j + 1) := by
        simp only [gfd, gst, tj, ↓reduceIte]
        omega
      have h2 := gfd_up (T := T) (x := x) (m := m) (k := j + 1) (k - (j + 1))
      rw [show j + 1 + (k - (j + 1)) = k by omega] at h2
      omega
    by_cases tk : T k = true
    · by_cases l : gfd true T x m k < m k
      · have e1 : gfd true T x m (k + 1) = m k := by
          simp only [gfd, gst, tk, ↓reduceIte]
          omega
        have e2 : bsf T x m (k + 1) = k := by
          simp only [bsf]
          rw [if_pos ⟨tk, l⟩]
        rw [e1, e2]
        refine Or.inr ⟨?_, by omega, tk, rfl, fun j hj tj => ?_⟩
        · rcases h with h | h <;> omega
        · have := hall k j hj tj
          omega
      · have e1 : gfd true T x m (k + 1) = gfd true T x m k := by
          simp only [gfd, gst, tk, ↓reduceIte]
          omega
        have e2 : bsf T x m (k + 1) = bsf T x m k := by
          simp only [bsf]
          rw [if_neg fun q => l q.2]
        rw [e1, e2]
        rcases h with h | h
        · exact Or.inl h
        · exact Or.inr ⟨h.1, by omega, h.2.2⟩
    · have e1 : gfd true T x m (k + 1) = gfd true T x m k := by
        simp only [gfd]
        rw [if_neg tk]
      have e2 : bsf T x m (k + 1) = bsf T x m k := by
        simp only [bsf]
        rw [if_neg fun q => tk q.1]
      rw [e1, e2]
      rcases h with h | h
      · exact Or.inl h
      · exact Or.inr ⟨h.1, by omega, h.2.2⟩
/-- an answer within a window -/
def Win (lo hi F x : Int) : Prop := (F ≤ lo → x ≤ lo) ∧ (hi ≤ F → hi ≤ x) ∧ (lo < F → F < hi → x = F)
theorem Win.rf (lo hi F : Int) : Win lo hi F F := ⟨id, id, fun _ _ => rfl⟩
theorem Win.mx {lo hi Fk b Y y : Int} (hl : lo < hi) (h : Win lo hi Fk b) (hb : b < hi) (h2 : Win (max lo b) hi Y y) : Win lo hi (max Fk Y) (if y ≤ b then b else y) := by
  obtain ⟨a1, a2, a3⟩ := h
  obtain ⟨c1, c2, c3⟩ := h2
  refine ⟨fun q => ?_, fun q => ?_, fun q1 q2 => ?_⟩ <;> split <;> omega
theorem Win.mn {lo hi Fk b Y y : Int} (hl : lo < hi) (h : Win lo hi Fk b) (hb : lo < b) (h2 : Win lo (min hi b) Y y) : Win lo hi (min Fk Y) (if b ≤ y then b else y) := by
  obtain ⟨a1, a2, a3⟩ := h
  obtain ⟨c1, c2, c3⟩ := h2
  refine ⟨fun q => ?_, fun q => ?_, fun q1 q2 => ?_⟩ <;> split <;> omega
/-- the class within a play -/
def TS (σ : gS) (n : Nat) (s K P : Nat → Nat) (W w N : Nat) (T : Nat → Bool) : Prop := CS 19 σ n s K W ∧ (∀ j, j < n → σ.1 26 j = nI (P j)) ∧ (∃ sale, sale < 1024 ∧ σ.1 18 2 = nI sale ∧ Bits sale (fun j => j < n ∧ T j = true)) ∧ σ.1 18 3 = nI w ∧ σ.1 18 4 = nI N
def cT (c k : Nat) : Bool := c == 20 || (c == 18) && (k == 2 || k == 8)
theorem Rg.set {n : Nat} {s K : Nat → Nat} {W c v : Nat} (h : Rg n s K W) (hv : v < 6) : Rg n (sset s c v) K W := ⟨h.1, h.2.1, fun j hj => ⟨by
  unfold sset
  split
  · exact hv
  · exact (h.2.2 j hj).1, (h.2.2 j hj).2⟩⟩
theorem Tbuy {n W w N t c r : Nat} {s K P : Nat → Nat} {T : Nat → Bool} {lf : (Nat → Nat) → Bool} {σ : gS} {g lo hi : Int} {kb : Int32 → Int32 → Int32 → Int32 → gS → Option (Int32 × gS)}
    (hw : w < 6) (ht : t < 100) (hc : c < n) (tc : T c = true) (hR : Rg n s K W) (h : TS σ n s K P W w N T)
    (hk : ∀ s T σ, TS σ n s K P W w N T → Rg n s K W → ∃ x τ, kb (nI (t + 1)) (zI (g + prt P t c)) (zI lo) (zI hi) σ = some (zI x, τ) ∧ (-1000 ≤ x ∧ x ≤ 1000) ∧ Win lo hi (g + prt P t c + gv n w P lf r (t + 1) s T) x ∧ TS τ n s K P W w N T ∧ Fr cT σ τ ∧ τ.1 18 8 = σ.1 18 8) :
    ∃ x τ, fo_Br_bestBuying kb (nI c) (nI t) (zI g) (zI lo) (zI hi) σ = some (zI x, τ) ∧ (-1000 ≤ x ∧ x ≤ 1000) ∧ Win lo hi (g + (gv n w P lf r (t + 1) (sset s c (swt w t)) (tcl T c) + prt P t c)) x ∧ TS τ n s K P W w N T ∧ Fr cT σ τ ∧ τ.1 18 8 = σ.1 18 8 := by
  obtain ⟨hC, h26, ⟨sale, l1, l2, l3⟩, h3, h4⟩ := id h
  have hn := hR.1
  have hsw : swt w t < 6 := by
    unfold swt
    split <;> omega
  have hclr := clr_le sale c
  have hb0 : Bits (clr sale c) (fun j => j < n ∧ tcl T c j = true) := fun j => by
    rw [tb_clr l1, Bool.and_eq_true, l3 j]
    unfold tcl
    simp only [Bool.and_eq_true, Bool.not_eq_true', decide_eq_false_iff_not, eq_comm (a := c), and_assoc]
  have hT0 : TS (gpi (gpi σ 18 2 (nI (clr sale c))) 20 c (nI (swt w t))) n (sset s c (swt w t)) K P W w N (tcl T c) := by
    refine ⟨⟨hC.1, fun j hj => ⟨?_, (hC.2 j hj).2⟩⟩, h26, ⟨clr sale c, by omega, rfl, hb0⟩, h3, h4⟩
    rw [gpi_at]
    unfold sset
    by_cases q : j = c
    · rw [if_pos ⟨rfl, q⟩, if_pos q]
    · rw [if_neg fun z => q z.2, if_neg q]
      exact (hC.2 j hj).1
  obtain ⟨x, τ, e1, e2, e3, e4, e5, e6⟩ := hk _ _ _ hT0 (hR.set hsw)
  obtain ⟨hC2, i26, ⟨sl2, m1, m2, m3⟩, i3, i4⟩ := e4
  have hor : sl2 ||| 2 ^ c < 1024 := Nat.or_lt_two_pow (n := 10) m1 (Nat.pow_lt_pow_right (by decide) (by omega))
  refine ⟨x, gpi (gpi τ 20 c (nI (s c))) 18 2 (nI (sl2 ||| 2 ^ c)), ?_, e2, ?_, ⟨⟨hC2.1, fun j hj => ⟨?_, (hC2.2 j hj).2⟩⟩, i26, ⟨sl2 ||| 2 ^ c, hor, rfl, m3.or.cg fun j => ?_⟩, i3, i4⟩, ?_, ?_⟩
  · have g1 : (gpi σ 18 2 (nI (clr sale c))).1 18 3 = nI w := h3
    have g2 : (gpi (gpi σ 18 2 (nI (clr sale c))) 20 c (nI (swt w t))).1 26 c = nI (P c) := h26 c hc
    have g3 : (gpi τ 20 c (nI (s c))).1 18 2 = nI sl2 := m2
    unfold fo_Br_bestBuying
    simp only [litE]
    rw [if_pos (gix_nI (by omega) (by decide)), gltE, nI_clamp (by omega), (hC.2 c hc).1, grem_nI (by omega) (by decide) (by decide)]
    by_cases ev : t % 2 = 0
    · have es : swt w t = w := if_pos ev
      have ep : zI g - nI (P c) = zI (g + prt P t c) := by
        rw [zI_nI, zI_sub]
        unfold prt
        rw [if_pos ev]
        rfl
      rw [ev, if_pos rfl]
      unfold f_Br_bestBuying_j22
      simp only [litE]
      rw [l2, nI_clr sale c (by omega), gupE, if_neg (show ¬ nI 1 = nI 0 by decide), g1]
      unfold f_Br_bestBuying_j67
      simp only [litE]
      rw [if_pos (gix_nI (by omega) (by decide)), gupE, nI_clamp (by omega), if_neg (show ¬ nI 1 = nI 0 by decide), if_pos (gix_nI (by omega) (by decide)), ← es, g2, ep, nI_add]
      unfold f_Br_bestBuying_j96
      simp only [litE]
      rw [e1, bindE, if_pos (gix_nI (by omega) (by decide)), gupE, nI_clamp (by omega), gupE, g3, sh1 (by omega), nI_or]
    · have es : swt w t = (w + 1) % 6 := if_neg ev
      have ep : zI g + nI (P c) = zI (g + prt P t c) := by
        rw [zI_nI, zI_add]
        unfold prt
        rw [if_neg ev]
      rw [if_neg (show ¬ nI (t % 2) = nI 0 by rw [nI_eq (by omega) (by omega)]; exact ev)]
      unfold f_Br_bestBuying_j22
      simp only [litE]
      rw [l2, nI_clr sale c (by omega), gupE, if_pos trivial, g1, nI_add, grem_nI (by omega) (by decide) (by decide)]
      unfold f_Br_bestBuying_j67
      simp only [litE]
      rw [if_pos (gix_nI (by omega) (by decide)), gupE, nI_clamp (by omega), if_pos trivial, if_pos (gix_nI (by omega) (by decide)), ← es, g2, ep, nI_add]
      unfold f_Br_bestBuying_j96
      simp only [litE]
      rw [e1, bindE, if_pos (gix_nI (by omega) (by decide)), gupE, nI_clamp (by omega), gupE, g3, sh1 (by omega), nI_or]
  · rw [show g + (gv n w P lf r (t + 1) (sset s c (swt w t)) (tcl T c) + prt P t c) = g + prt P t c + gv n w P lf r (t + 1) (sset s c (swt w t)) (tcl T c) by omega]
    exact e3
  · show (gpi τ 20 c (nI (s c))).1 20 j = nI (s j)
    rw [gpi_at]
    by_cases q : j = c
    · rw [if_pos ⟨rfl, q⟩, q]
    · rw [if_neg fun z => q z.2]
      have := (hC2.2 j hj).1
      unfold sset at this
      rw [if_neg q] at this
      exact this
  · unfold tcl
    by_cases q : j = c
    · subst q
      simp [tc, hc]
    · simp [q]
  · exact (((((Fr.rf cT σ).pi rfl).pi rfl).tr e5).pi rfl).pi rfl
  · show τ.1 18 8 = _
    rw [e6]
    rfl
theorem Tbest {n W w N : Nat} {K P : Nat → Nat} {lf : (Nat → Nat) → Bool} (hP : ∀ j, j < n → P j < 100) (hw : w < 6) (hN : N ≤ 4) (hlf : ∀ s, lf s = true ↔ Hp n s K W (fun _ => True) w) : ∀ (r t f : Nat) (s : Nat → Nat) (T : Nat → Bool) (σ : gS) (g lo hi : Int), t + r = N → r < f → TS σ n s K P W w N T → Rg n s K W → (-(100 * (t : Int)) ≤ g ∧ g ≤ 100 * t) → (-1000000 ≤ lo ∧ lo < hi ∧ hi ≤ 1000000) →
    ∃ x τ, f_Br_bestFrom f (nI t) (zI g) (zI lo) (zI hi) σ = some (zI x, τ) ∧ (-1000 ≤ x ∧ x ≤ 1000) ∧ Win lo hi (g + gv n w P lf r t s T) x ∧ TS τ n s K P W w N T ∧ Fr cT σ τ ∧ (t ≠ 0 → τ.1 18 8 = σ.1 18 8) ∧
      (∀ r', r = r' + 1 → t = 0 → lo = -1000000 → hi = 1000000 → σ.1 18 8 = nI 10 → τ.1 18 8 = nI (bsf T (gv n w P lf r' 1 s T) (fun c => gv n w P lf r' 1 (sset s c (swt w 0)) (tcl T c) + prt P 0 c) n))
  | 0, t, f + 1, s, T, σ, g, lo, hi, htr, hf, h, hR, hg, hl => by
    obtain ⟨b, e1, e2⟩ := ChappensOn h.1 hR hw
    have ht : t = N := by omega
    have h4 : σ.1 18 4 = nI N := h.2.2.2.2
    have h3 : σ.1 18 3 = nI w := h.2.2.2.1
    have hb : lf s = b := by
      have := (hlf s).trans e2.symm
      cases b <;> cases e : lf s <;> simp_all
    refine ⟨g + gv n w P lf 0 t s T, σ, ?_, ?_, Win.rf _ _ _, h, Fr.rf _ _, fun _ => rfl, fun r' q => by omega⟩
    · show fo_Br_bestFrom (fun v1 v2 v3 v4 σ => f_Br_bestFrom f v1 v2 v3 v4 σ) (nI t) (zI g) (zI lo) (zI hi) σ = _
      unfold fo_Br_bestFrom
      simp only [litE, gv]
      rw [h4, ht, if_neg Int32.lt_irrefl, h3, e1, bindE, hb]
      cases b with
      | false => rw [if_pos (by decide), zI_nI, zI_add]; rfl
      | true => rw [if_neg (by decide), zI_nI, zI_add]; rfl
    · have := gv_b (w := w) (lf := lf) hP 0 t s T
      omega
  | r + 1, t, f + 1, s, T, σ, g, lo, hi, htr, hf, h, hR, hg, hl => by
    have IH := Tbest hP hw hN hlf r (t + 1) f
    have h4 : σ.1 18 4 = nI N := h.2.2.2.2
    have hn := hR.1
    obtain ⟨x0, τ0, a1, a2, a3, a4, a5, a6, -⟩ := IH s T σ g lo hi (by omega) (by omega) h hR (by omega) hl
    have a6 := a6 (by omega)
    have hx := gv_b (w := w) (lf := lf) hP r (t + 1)
    have hgo : f_Br_bestFrom (f + 1) (nI t) (zI g) (zI lo) (zI hi) σ = f_Br_bestFrom_L47 (fun v1 v2 v3 v4 σ => f_Br_bestFrom f v1 v2 v3 v4 σ) gfu (nI t) (zI g) (zI lo) (zI hi) (zI x0) (nI 0) τ0 := by
      show fo_Br_bestFrom (fun v1 v2 v3 v4 σ => f_Br_bestFrom f v1 v2 v3 v4 σ) (nI t) (zI g) (zI lo) (zI hi) σ = _
      unfold fo_Br_bestFrom
      simp only [litE]
      rw [h4, if_pos (show nI t < nI N by rw [nI_ltI (by omega) (by omega)]; omega), nI_add, a1, bindE]
    rw [hgo]
    generalize hx0 : gv n w P lf r (t + 1) s T = X at a3
    generalize hm : (fun c => gv n w P lf r (t + 1) (sset s c (swt w t)) (tcl T c) + prt P t c) = m
    have hgv : gv n w P lf (r + 1) t s T = gfd (evn t) T X m n := by
      simp only [gv]
      rw [hx0, hm]
    have hlast : ∀ x, (∀ r', r + 1 = r' + 1 → t = 0 → lo = -1000000 → hi = 1000000 → σ.1 18 8 = nI 10 → x = nI (bsf T (gv n w P lf r' 1 s T) (fun c => gv n w P lf r' 1 (sset s c (swt w 0)) (tcl T c) + prt P 0 c) n)) ↔ (t = 0 → lo = -1000000 → hi = 1000000 → σ.1 18 8 = nI 10 → x = nI (bsf T X m n)) := by
      intro x
      constructor
      · intro q t0 q1 q2 q3
        have := q r rfl t0 q1 q2 q3
        subst t0
        rw [← hx0, ← hm]
        exact this
      · intro q r' er t0 q1 q2 q3
        have er : r = r' := by omega
        subst er
        have := q t0 q1 q2 q3
        subst t0
        rw [← hx0, ← hm] at this
        exact this
    rw [hgv]
    have hmc : ∀ c, m c = gv n w P lf r (t + 1) (sset s c (swt w t)) (tcl T c) + prt P t c := fun c => by rw [← hm]
    generalize hkb : (fun v1 v2 v3 v4 σ => f_Br_bestFrom f v1 v2 v3 v4 σ) = kb
    have hk : ∀ (c : Nat) (lo' hi' : Int), c < n → -1000000 ≤ lo' ∧ lo' < hi' ∧ hi' ≤ 1000000 → ∀ s T σ, TS σ n s K P W w N T → Rg n s K W → ∃ x τ, kb (nI (t + 1)) (zI (g + prt P t c)) (zI lo') (zI hi') σ = some (zI x, τ) ∧ (-1000 ≤ x ∧ x ≤ 1000) ∧ Win lo' hi' (g + prt P t c + gv n w P lf r (t + 1) s T) x ∧ TS τ n s K P W w N T ∧ Fr cT σ τ ∧ τ.1 18 8 = σ.1 18 8 := by
      intro c lo' hi' hc hl' s T σ h hR
      have hp := prt_b (t := t) (hP c hc)
      obtain ⟨x, τ, b1, b2, b3, b4, b5, b6, -⟩ := IH s T σ (g + prt P t c) lo' hi' (by omega) (by omega) h hR (by omega) hl'
      rw [← hkb]
      exact ⟨x, τ, b1, b2, b3, b4, b5, b6 (by omega)⟩
    have fbT : ∀ {τ : gS} (x : Int32), TS τ n s K P W w N T → TS (gpi τ 18 8 x) n s K P W w N T := fun x q => ⟨⟨q.1.1, q.1.2⟩, q.2.1, q.2.2.1, q.2.2.2.1, q.2.2.2.2⟩
    refine loopG (fun fu i (a : Int × gS) => f_Br_bestFrom_L47 kb fu (nI t) (zI g) (zI lo) (zI hi) (zI a.1) (nI i) a.2)
      (fun o => ∃ x τ, o = some (zI x, τ) ∧ (-1000 ≤ x ∧ x ≤ 1000) ∧ Win lo hi (g + gfd (evn t) T X m n) x ∧ TS τ n s K P W w N T ∧ Fr cT σ τ ∧ (t ≠ 0 → τ.1 18 8 = σ.1 18 8) ∧ (∀ r', r + 1 = r' + 1 → t = 0 → lo = -1000000 → hi = 1000000 → σ.1 18 8 = nI 10 → τ.1 18 8 = nI (bsf T (gv n w P lf r' 1 s T) (fun c => gv n w P lf r' 1 (sset s c (swt w 0)) (tcl T c) + prt P 0 c) n)))
      (fun i a => (-1000 ≤ a.1 ∧ a.1 ≤ 1000) ∧ Win lo hi (g + gfd (evn t) T X m i) a.1 ∧ TS a.2 n s K P W w N T ∧ Fr cT σ a.2 ∧ (t ≠ 0 → a.2.1 18 8 = σ.1 18 8) ∧ (t = 0 → lo = -1000000 → hi = 1000000 → σ.1 18 8 = nI 10 → a.2.1 18 8 = nI (bsf T X m i)))
      n 0 (x0, τ0) (by omega) (by omega) ⟨a2, a3, a4, a5, fun _ => a6, fun _ _ _ q => a6.trans q⟩ ?_ ?_
    · rintro fu i ⟨b, υ⟩ hi' ⟨b1, b2, b3, b4, b5, b6⟩
      simp only at b1 b2 b3 b4 b5 b6
      obtain ⟨hC, h26, ⟨sale, l1, l2, l3⟩, -, -⟩ := id b3
      have u19 : υ.1 19 2 = nI n := hC.1.1
      by_cases ti : T i = true
      · have hb : sale.testBit i = true := (l3 i).mpr ⟨hi', ti⟩
        by_cases ev : t % 2 = 0
        · have eev : evn t = true := decide_eq_true ev
          by_cases lt : b < hi
          · left
            obtain ⟨y, υ2, c1, c2, c3, c4, c5, c6⟩ := Tbuy (lf := lf) (r := r) hw (by omega) hi' ti hR b3 (hk i (max lo b) hi hi' (by omega))
            rw [← hmc i] at c3
            have hW := b2.mx hl.2.1 lt c3
            have hgf : g + gfd (evn t) T X m (i + 1) = max (g + gfd (evn t) T X m i) (g + m i) := by
              simp only [gfd, gst, ti, eev, ↓reduceIte]
              omega
            have hgm : gmax (zI lo) (zI b) = zI (max lo b) := gmaxZ (by omega) (by omega)
            have hstep : f_Br_bestFrom_L47 kb (fu + 1) (nI t) (zI g) (zI lo) (zI hi) (zI b) (nI i) υ = (if y ≤ b then f_Br_bestFrom_L47 kb fu (nI t) (zI g) (zI lo) (zI hi) (zI b) (nI (i + 1)) υ2 else f_Br_bestFrom_L47 kb fu (nI t) (zI g) (zI lo) (zI hi) (zI y) (nI (i + 1)) (gpi υ2 18 8 (if t = 0 then nI i else υ2.1 18 8))) := by
              rw [f_Br_bestFrom_L47]
              simp only [litE]
              rw [u19, if_neg (nI_ge hi' (by omega)), l2, has_eq (by omega) (by omega), bindE, hb, if_neg (show ¬ bI true = nI 0 by decide), grem_nI (by omega) (by decide) (by decide), ev, if_pos rfl]
              unfold f_Br_bestFrom_j85
              simp only [litE]
              rw [if_neg (show ¬ nI 1 = nI 0 by decide), if_pos (zlt (by omega) (by omega) lt)]
              unfold f_Br_bestFrom_j111
              simp only [litE]
              rw [if_neg (show ¬ nI 1 = nI 0 by decide), hgm, c1, bindE]
              unfold f_Br_bestFrom_j151
              simp only [litE]
              rw [if_neg (show ¬ nI 1 = nI 0 by decide)]
              by_cases le : y ≤ b
              · rw [if_pos le, if_pos (zle (by omega) (by omega) le), nI_add]
              · rw [if_neg le, if_neg (zgt (by omega) (by omega) le)]
                unfold f_Br_bestFrom_j175 f_Br_bestFrom_j193
                simp only [litE]
                by_cases t0 : t = 0
                · rw [if_pos t0, t0, if_pos rfl, gupE, nI_add]
                · rw [if_neg t0, if_neg (show ¬ nI t = nI 0 by rw [nI_eq (by omega) (by omega)]; exact t0), gupE, nI_add]
            rw [← hgf] at hW
            have hbs : t = 0 → lo = -1000000 → hi = 1000000 → (y ≤ b ↔ ¬ gfd true T X m i < m i) ∧ g = 0 := by
              intro t0 q1 q2
              have hgb := gfd_b (ev := evn t) (T := T) (x := X) (A := 1000) (m := m) (by rw [← hx0]; have := hx s T; omega) i fun j hj => by
                have h1 := hx (sset s j (swt w t)) (tcl T j)
                have h2 := prt_b (t := t) (hP j (by omega))
                rw [hmc j]
                omega
              have hmi : -1000 ≤ m i ∧ m i ≤ 1000 := by
                have h1 := hx (sset s i (swt w t)) (tcl T i)
                have h2 := prt_b (t := t) (hP i (by omega))
                rw [hmc i]
                omega
              obtain ⟨w1, w2, w3⟩ := b2
              obtain ⟨v1, v2, v3⟩ := c3
              rw [eev] at w1 w2 w3 hgb
              have hb' := w3 (by omega) (by omega)
              refine ⟨?_, by omega⟩
              by_cases q : g + m i ≤ max lo b
              · have := v1 q
                omega
              · have := v3 (by omega) (by omega)
                omega
            by_cases le : y ≤ b
            · rw [if_pos le] at hstep hW
              refine ⟨(b, υ2), hstep, b1, hW, c4, b4.tr c5, fun q => c6.trans (b5 q), fun t0 q1 q2 q3 => ?_⟩
              have hn2 := ((hbs t0 q1 q2).1.mp le)
              show υ2.1 18 8 = nI (bsf T X m (i + 1))
              rw [c6, b6 t0 q1 q2 q3]
              simp only [bsf]
              rw [if_neg fun q => hn2 q.2]
            · rw [if_neg le] at hstep hW
              refine ⟨(y, gpi υ2 18 8 (if t = 0 then nI i else υ2.1 18 8)), hstep, c2, hW, fbT _ c4, (b4.tr c5).pi rfl, fun q => ?_, fun t0 q1 q2 q3 => ?_⟩
              · rw [if_neg q]
                exact c6.trans (b5 q)
              · have hn2 : gfd true T X m i < m i := Classical.byContradiction fun q => le ((hbs t0 q1 q2).1.mpr q)
                show (if t = 0 then nI i else υ2.1 18 8) = nI (bsf T X m (i + 1))
                rw [if_pos t0]
                simp only [bsf]
                rw [if_pos ⟨ti, hn2⟩]
          · right
            refine ⟨b, υ, ?_, b1, ?_, b3, b4, b5, (hlast _).mpr fun t0 q1 q2 q3 => by omega⟩
            · rw [f_Br_bestFrom_L47]
              simp only [litE]
              rw [u19, if_neg (nI_ge hi' (by omega)), l2, has_eq (by omega) (by omega), bindE, hb, if_neg (show ¬ bI true = nI 0 by decide), grem_nI (by omega) (by decide) (by decide), ev, if_pos rfl]
              unfold f_Br_bestFrom_j85
              simp only [litE]
              rw [if_neg (show ¬ nI 1 = nI 0 by decide), if_neg (zge (by omega) (by omega) lt)]
            · have := gfd_up (T := T) (x := X) (m := m) (k := i) (n - i)
              rw [show i + (n - i) = n by omega] at this
              rw [eev] at b2 ⊢
              obtain ⟨w1, w2, w3⟩ := b2
              refine ⟨fun q => ?_, fun q => ?_, fun q1 q2 => ?_⟩ <;> omega
        · have eev : evn t = false := decide_eq_false ev
          have t0 : t ≠ 0 := by
            rintro rfl
            exact ev rfl
          have hnt : ¬ nI (t % 2) = nI 0 := by
            rw [nI_eq (by omega) (by omega)]
            exact ev
          by_cases lt : lo < b
          · left
            obtain ⟨y, υ2, c1, c2, c3, c4, c5, c6⟩ := Tbuy (lf := lf) (r := r) hw (by omega) hi' ti hR b3 (hk i lo (min hi b) hi' (by omega))
            rw [← hmc i] at c3
            have hW := b2.mn hl.2.1 lt c3
            have hgf : g + gfd (evn t) T X m (i + 1) = min (g + gfd (evn t) T X m i) (g + m i) := by
              simp only [gfd, gst, ti, eev, ↓reduceIte, Bool.false_eq_true]
              omega
            have hgm : gmin (zI hi) (zI b) = zI (min hi b) := gminZ (by omega) (by omega)
            have hstep : f_Br_bestFrom_L47 kb (fu + 1) (nI t) (zI g) (zI lo) (zI hi) (zI b) (nI i) υ = (if b ≤ y then f_Br_bestFrom_L47 kb fu (nI t) (zI g) (zI lo) (zI hi) (zI b) (nI (i + 1)) υ2 else f_Br_bestFrom_L47 kb fu (nI t) (zI g) (zI lo) (zI hi) (zI y) (nI (i + 1)) (gpi υ2 18 8 (υ2.1 18 8))) := by
              rw [f_Br_bestFrom_L47]
              simp only [litE]
              rw [u19, if_neg (nI_ge hi' (by omega)), l2, has_eq (by omega) (by omega), bindE, hb, if_neg (show ¬ bI true = nI 0 by decide), grem_nI (by omega) (by decide) (by decide), if_neg hnt]
              unfold f_Br_bestFrom_j85
              simp only [litE]
              rw [if_pos trivial, if_pos (zlt (by omega) (by omega) lt)]
              unfold f_Br_bestFrom_j111
              simp only [litE]
              rw [if_pos trivial, hgm, c1, bindE]
              unfold f_Br_bestFrom_j151
              simp only [litE]
              rw [if_pos trivial]
              by_cases le : b ≤ y
              · rw [if_pos le, if_pos (zle (by omega) (by omega) le), nI_add]
              · rw [if_neg le, if_neg (zgt (by omega) (by omega) le)]
                unfold f_Br_bestFrom_j175 f_Br_bestFrom_j193
                simp only [litE]
                rw [if_neg (show ¬ nI t = nI 0 by rw [nI_eq (by omega) (by omega)]; exact t0), gupE, nI_add]
            rw [← hgf] at hW
            by_cases le : b ≤ y
            · rw [if_pos le] at hstep hW
              exact ⟨(b, υ2), hstep, b1, hW, c4, b4.tr c5, fun q => c6.trans (b5 q), fun q => absurd q t0⟩
            · rw [if_neg le] at hstep hW
              exact ⟨(y, gpi υ2 18 8 (υ2.1 18 8)), hstep, c2, hW, fbT _ c4, (b4.tr c5).pi rfl, fun q => c6.trans (b5 q), fun q => absurd q t0⟩
          · right
            refine ⟨b, υ, ?_, b1, ?_, b3, b4, b5, fun _ _ q => absurd q t0⟩
            · rw [f_Br_bestFrom_L47]
              simp only [litE]
              rw [u19, if_neg (nI_ge hi' (by omega)), l2, has_eq (by omega) (by omega), bindE, hb, if_neg (show ¬ bI true = nI 0 by decide), grem_nI (by omega) (by decide) (by decide), if_neg hnt]
              unfold f_Br_bestFrom_j85
              simp only [litE]
              rw [if_pos trivial, if_neg (zge (by omega) (by omega) lt)]
            · have := gfd_dn (T := T) (x := X) (m := m) (k := i) (n - i)
              rw [show i + (n - i) = n by omega] at this
              rw [eev] at b2 ⊢
              obtain ⟨w1, w2, w3⟩ := b2
              refine ⟨fun q => ?_, fun q => ?_, fun q1 q2 => ?_⟩ <;> omega
      · left
        have hb : sale.testBit i = false := by
          cases e : sale.testBit i with
          | false => rfl
          | true => exact absurd ((l3 i).mp e).2 ti
        have e1 : gfd (evn t) T X m (i + 1) = gfd (evn t) T X m i := by
          simp only [gfd]
          rw [if_neg ti]
        have e2 : bsf T X m (i + 1) = bsf T X m i := by
          simp only [bsf]
          rw [if_neg fun q => ti q.1]
        refine ⟨(b, υ), ?_, b1, by rw [e1]; exact b2, b3, b4, b5, by rw [e2]; exact b6⟩
        rw [f_Br_bestFrom_L47]
        simp only [litE]
        rw [u19, if_neg (nI_ge hi' (by omega)), l2, has_eq (by omega) (by omega), bindE, hb, if_pos (show bI false = nI 0 by decide), nI_add]
    · rintro fu ⟨b, υ⟩ ⟨b1, b2, b3, b4, b5, b6⟩
      simp only at b1 b2 b3 b4 b5 b6
      refine ⟨b, υ, ?_, b1, b2, b3, b4, b5, (hlast _).mpr b6⟩
      have u19 : υ.1 19 2 = nI n := b3.1.1.1
      rw [f_Br_bestFrom_L47, u19, if_pos (show nI n ≤ nI n from Int32.le_refl _)]
