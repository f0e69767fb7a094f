/-! pure: loops by an invariant; bits; who agrees, what has happened -/
theorem loopQ {α β : Type} (L : Nat → Nat → α → β) (Q : β → Prop) (P : Nat → α → Prop) (n : Nat)
    (hs : ∀ fu i a, i < n → P i a → (∃ a', L (fu + 1) i a = L fu (i + 1) a' ∧ P (i + 1) a') ∨ Q (L (fu + 1) i a))
    (he : ∀ fu a, P n a → Q (L (fu + 1) n a)) : ∀ (t i fu : Nat) (a : α), i + t = n → t < fu → P i a → Q (L fu i a) := by
  intro t
  induction t with
  | zero =>
    intro i fu a hi hf hp
    obtain ⟨f, rfl⟩ : ∃ f, fu = f + 1 := ⟨fu - 1, by omega⟩
    obtain rfl : i = n := by omega
    exact he f a hp
  | succ t ih =>
    intro i fu a hi hf hp
    obtain ⟨f, rfl⟩ : ∃ f, fu = f + 1 := ⟨fu - 1, by omega⟩
    rcases hs f i a (by omega) hp with ⟨a', e, p'⟩ | q
    · rw [e]
      exact ih (i + 1) f a' (by omega) (by omega) p'
    · exact q
/-- a loop from i on, with fuel gfu -/
theorem loopG {α β : Type} (L : Nat → Nat → α → β) (Q : β → Prop) (P : Nat → α → Prop) (n i : Nat) (a : α) (hn : n < 1900) (hi : i ≤ n) (hP : P i a)
    (hs : ∀ fu i a, i < n → P i a → (∃ a', L (fu + 1) i a = L fu (i + 1) a' ∧ P (i + 1) a') ∨ Q (L (fu + 1) i a))
    (he : ∀ fu a, P n a → Q (L (fu + 1) n a)) : Q (L gfu i a) :=
  loopQ L Q P n hs he (n - i) i gfu a (by omega) (by show n - i < 2000; omega) hP
theorem nI_bv (a : Nat) : (nI a).toBitVec = BitVec.ofNat 32 a := rfl
theorem nI_or (a b : Nat) : nI a ||| nI b = nI (a ||| b) := by
  apply Int32.toBitVec_inj.1
  show BitVec.ofNat 32 a ||| BitVec.ofNat 32 b = BitVec.ofNat 32 (a ||| b)
  apply BitVec.eq_of_getLsbD_eq
  intro i hi
  simp [hi]
theorem nI_and (a b : Nat) : nI a &&& nI b = nI (a &&& b) := by
  apply Int32.toBitVec_inj.1
  show BitVec.ofNat 32 a &&& BitVec.ofNat 32 b = BitVec.ofNat 32 (a &&& b)
  apply BitVec.eq_of_getLsbD_eq
  intro i hi
  simp [hi]
theorem nI_xor (a b : Nat) : nI a ^^^ nI b = nI (a ^^^ b) := by
  apply Int32.toBitVec_inj.1
  show BitVec.ofNat 32 a ^^^ BitVec.ofNat 32 b = BitVec.ofNat 32 (a ^^^ b)
  apply BitVec.eq_of_getLsbD_eq
  intro i hi
  simp [hi]
theorem nI_m1 : -nI 1 = nI 4294967295 := by decide
theorem sh_l : ∀ n, n < 32 → ((nI n &&& nI 31).toBitVec.smod 32).toNat = n := by decide +kernel
theorem sh_u : ∀ n, n < 32 → (((nI n).toUInt32 &&& Int32.toUInt32 31).toBitVec % 32).toNat = n := by decide +kernel
theorem shA {a k : Nat} (hk : k < 32) (h : a * 2 ^ k < 4294967296) : nI a <<< (nI k &&& nI 31) = nI (a * 2 ^ k) := pk_shlN (nI k &&& nI 31) k (sh_l k hk) h
theorem sh1 {k : Nat} (hk : k < 32) : nI 1 <<< (nI k &&& nI 31) = nI (2 ^ k) := by
  have h : 2 ^ k < 2 ^ 32 := Nat.pow_lt_pow_right (by decide) hk
  rw [shA hk (by omega), Nat.one_mul]
theorem ushN {a k : Nat} (ha : a < 4294967296) (hk : k < 32) : gush (nI a) (nI k) = nI (a / 2 ^ k) := pk_ushrN ha (nI k) k (sh_u k hk)
theorem sshN {a k : Nat} (ha : a < 2147483648) (hk : k < 32) : nI a >>> (nI k &&& nI 31) = nI (a / 2 ^ k) := pk_shrN ha (nI k &&& nI 31) k (sh_l k hk)
theorem and1 (a : Nat) : nI a &&& nI 1 = nI (a % 2) := by rw [nI_and, Nat.and_one_is_mod]
theorem and7 (a : Nat) : nI a &&& nI 7 = nI (a % 8) := by rw [nI_and, show 7 = 2 ^ 3 - 1 from rfl, Nat.and_two_pow_sub_one_eq_mod]
theorem and63 (a : Nat) : nI a &&& nI 63 = nI (a % 64) := by rw [nI_and, show 63 = 2 ^ 6 - 1 from rfl, Nat.and_two_pow_sub_one_eq_mod]
theorem tb_mod (a k : Nat) : a / 2 ^ k % 2 = if a.testBit k = true then 1 else 0 := by
  rw [Nat.testBit_eq_decide_div_mod_eq]
  by_cases h : a / 2 ^ k % 2 = 1
  · simp [h]
  · simp [h]
    omega
theorem has_eq {a k : Nat} (ha : a < 4294967296) (hk : k < 32) : f_T_has (nI a) (nI k) = some (bI (a.testBit k)) := by
  unfold f_T_has
  simp only [litE, ushN ha hk, and1, tb_mod]
  cases a.testBit k <;> decide
theorem isIn_eq {a k : Nat} (ha : a < 2147483648) (hk : k < 32) : f_M_isIn (nI a) (nI k) = some (bI (a.testBit k)) := by
  unfold f_M_isIn
  simp only [litE, sshN ha hk, and1, tb_mod]
  cases a.testBit k <;> decide
/-- the bits of a number are told by P -/
def Bits (h : Nat) (P : Nat → Prop) : Prop := ∀ w, h.testBit w = true ↔ P w
theorem Bits.eq {h h' : Nat} {P : Nat → Prop} (a : Bits h P) (b : Bits h' P) : h = h' := Nat.eq_of_testBit_eq fun i => by
  have h1 := a i
  have h2 := b i
  cases e : h.testBit i <;> cases e2 : h'.testBit i <;> simp [e, e2] at h1 h2 ⊢
  · exact h1 h2
  · exact h2 h1
theorem Bits.zero : Bits 0 (fun _ => False) := fun w => by simp
theorem Bits.cg {h : Nat} {P Q : Nat → Prop} (a : Bits h P) (e : ∀ w, P w ↔ Q w) : Bits h Q := fun w => (a w).trans (e w)
theorem Bits.or {h k : Nat} {P : Nat → Prop} (a : Bits h P) : Bits (h ||| 2 ^ k) (fun w => P w ∨ w = k) := fun w => by
  rw [Nat.testBit_or, Bool.or_eq_true, a w, Nat.testBit_two_pow, decide_eq_true_iff]
  exact or_congr Iff.rfl eq_comm
theorem Bits.or2 {h k : Nat} {P P2 : Nat → Prop} (a : Bits h P) (b : Bits k P2) : Bits (h ||| k) (fun w => P w ∨ P2 w) := fun w => by
  rw [Nat.testBit_or, Bool.or_eq_true, a w, b w]
theorem Bits.lt {h k : Nat} {P : Nat → Prop} (a : Bits h P) (hp : ∀ w, P w → w < k) : h < 2 ^ k := by
  apply Nat.lt_pow_two_of_testBit
  intro i hi
  cases e : h.testBit i with
  | false => rfl
  | true => exact absurd (hp i ((a i).mp e)) (by omega)
theorem Bits.lt6 {h : Nat} {P : Nat → Prop} (a : Bits h P) (hp : ∀ w, P w → w < 6) : h < 64 := a.lt hp
theorem Bits.pos {h k : Nat} {P : Nat → Prop} (a : Bits h P) (hp : P k) : h ≠ 0 := by
  intro q
  have := (a k).mpr hp
  rw [q] at this
  simp at this
theorem Bits.nul {h : Nat} {P : Nat → Prop} (a : Bits h P) (hp : ∀ k, ¬ P k) : h = 0 := a.eq (Bits.zero.cg fun w => by simp [hp w])
theorem Bits.ex (P : Nat → Prop) : ∀ k, ∃ h, Bits h (fun w => w < k ∧ P w)
  | 0 => ⟨0, Bits.zero.cg fun w => ⟨False.elim, fun q => absurd q.1 (Nat.not_lt_zero w)⟩⟩
  | k + 1 => by
    obtain ⟨h, b⟩ := Bits.ex P k
    by_cases q : P k
    · refine ⟨h ||| 2 ^ k, b.or.cg fun w => ⟨?_, ?_⟩⟩
      · rintro (z | rfl)
        · exact ⟨by omega, z.2⟩
        · exact ⟨by omega, q⟩
      · rintro ⟨z1, z2⟩
        by_cases e : w = k
        · exact Or.inr e
        · exact Or.inl ⟨by omega, z2⟩
    · refine ⟨h, b.cg fun w => ⟨fun z => ⟨by omega, z.2⟩, fun z => ⟨?_, z.2⟩⟩⟩
      by_cases e : w = k
      · subst e
        exact absurd z.2 q
      · omega
theorem tb_full {n j : Nat} : (2 ^ n - 1).testBit j = true ↔ j < n := by
  rw [Nat.testBit_two_pow_sub_one, decide_eq_true_iff]
abbrev agr (s K : Nat → Nat) (W a b : Nat) : Prop := K a ≠ K b ∧ s a ≤ s b + W ∧ s b ≤ s a + W
theorem agr.cm {s K : Nat → Nat} {W a b : Nat} (h : agr s K W a b) : agr s K W b a := ⟨fun q => h.1 q.symm, h.2.2, h.2.1⟩
/-- on which weathers two of T below n agree -/
def Hp (n : Nat) (s K : Nat → Nat) (W : Nat) (T : Nat → Prop) (w : Nat) : Prop := ∃ a b, b < a ∧ a < n ∧ T a ∧ T b ∧ agr s K W a b ∧ min (s a) (s b) = w
def Rg (n : Nat) (s K : Nat → Nat) (W : Nat) : Prop := n ≤ 10 ∧ W < 3 ∧ ∀ j, j < n → s j < 6 ∧ K j < 8
theorem Rg.sk {n : Nat} {s K : Nat → Nat} {W j : Nat} (h : Rg n s K W) (hj : j < n) : s j < 6 ∧ K j < 8 ∧ j < 10 ∧ n ≤ 10 ∧ W < 3 := by
  have h1 := h.2.2 j hj
  have h2 := h.1
  have h3 := h.2.1
  omega
theorem Hp.lt {n : Nat} {s K : Nat → Nat} {W : Nat} {T : Nat → Prop} (h : Rg n s K W) : ∀ w, Hp n s K W T w → w < 6 := by
  rintro w ⟨a, b, h1, h2, -, -, -, rfl⟩
  have := h.sk h2
  omega
/-- what the reference holds: says and kins -/
def MS (σ : gS) (n : Nat) (s K : Nat → Nat) (W : Nat) : Prop := (σ.1 59 6 = nI n ∧ σ.1 60 41 = nI W) ∧ ∀ j, j < n → σ.1 67 j = nI (s j) ∧ σ.1 60 j = nI (K j)
/-- what a crowd holds -/
def CS (c : Nat) (σ : gS) (n : Nat) (s K : Nat → Nat) (W : Nat) : Prop := (σ.1 c 2 = nI n ∧ σ.1 c 3 = nI W) ∧ ∀ j, j < n → σ.1 (c + 1) j = nI (s j) ∧ σ.1 (c + 2) j = nI (K j)
theorem nI_subI {a b : Nat} (ha : a < 1073741824) (hb : b < 1073741824) : (nI a - nI b).toInt = (a : Int) - b := pk_sub_toInt ha hb
theorem gabs_sub {a b W : Nat} (ha : a < 1000) (hb : b < 1000) (hW : W < 1000) : (nI W < gabs (nI a - nI b)) = ¬ (a ≤ b + W ∧ b ≤ a + W) := by
  unfold gabs
  rcases Nat.lt_or_ge a b with h | h
  · have e : nI a - nI b < 0 := pk_sneg (by omega) h
    have e2 : ¬ 0 ≤ nI a - nI b := Int32.not_le.mpr e
    rw [if_neg e2]
    have e3 : (0 : Int32) - (nI a - nI b) = nI (b - a) := by
      rw [← pk_sub (a := b) (b := a) (by omega)]
      apply Int32.toBitVec_inj.1
      simp
    rw [e3, nI_ltI (by omega) (by omega)]
    apply propext
    omega
  · rw [pk_sub h, if_pos (by rw [show (0 : Int32) = nI 0 from rfl, nI_leI (by decide) (by omega)]; omega), nI_ltI (by omega) (by omega)]
    apply propext
    omega
theorem Magree {σ : gS} {n W a b : Nat} {s K : Nat → Nat} (hM : MS σ n s K W) (hR : Rg n s K W) (ha : a < n) (hb : b < n) : f_M_agree (nI a) (nI b) σ = some (bI (decide (agr s K W a b))) := by
  have h1 := hR.sk ha
  have h2 := hR.sk hb
  have e1 := hM.2 a ha
  have e2 := hM.2 b hb
  unfold f_M_agree f_M_agree_j44
  simp (disch := omega) only [gupE, gltE, gllE, litE, litLE, bindE, ↓reduceIte, gsi_at, gsi_l2, gsl_at, gsl_i1, upd_at, updL_at, Nat.reduceEqDiff, gix_nI, nI_clamp, bI_0, bI_gzb, Bool.true_eq_false, Bool.false_eq_true, e1, e2, nI_leI, nI_eq, hM.1.2]
  by_cases hk : K a = K b
  · have : decide (agr s K W a b) = false := decide_eq_false fun q => q.1 hk
    simp only [hk, this, ↓reduceIte, ite_self]
    rfl
  · by_cases hs : s a ≤ s b
    · simp (disch := omega) only [hk, hs, ↓reduceIte, pk_sub, nI_ltI]
      by_cases hw : W < s b - s a
      · have : decide (agr s K W a b) = false := decide_eq_false fun q => by have := q.2; omega
        simp only [hw, this, ↓reduceIte]
        rfl
      · have : decide (agr s K W a b) = true := decide_eq_true ⟨hk, by omega, by omega⟩
        simp only [hw, this, ↓reduceIte]
        rfl
    · simp (disch := omega) only [hk, hs, ↓reduceIte, pk_sub, nI_ltI]
      by_cases hw : W < s a - s b
      · have : decide (agr s K W a b) = false := decide_eq_false fun q => by have := q.2; omega
        simp only [hw, this, ↓reduceIte]
        rfl
      · have : decide (agr s K W a b) = true := decide_eq_true ⟨hk, by omega, by omega⟩
        simp only [hw, this, ↓reduceIte]
        rfl
theorem MagreedOn {σ : gS} {n W a b : Nat} {s K : Nat → Nat} (hM : MS σ n s K W) (hR : Rg n s K W) (ha : a < n) (hb : b < n) : f_M_agreedOn (nI a) (nI b) σ = some (nI (min (s a) (s b))) := by
  have h1 := hR.sk ha
  have h2 := hR.sk hb
  have e1 := hM.2 a ha
  have e2 := hM.2 b hb
  unfold f_M_agreedOn
  simp (disch := omega) only [gupE, gltE, gllE, litE, litLE, bindE, ↓reduceIte, gsi_at, gsi_l2, gsl_at, gsl_i1, upd_at, updL_at, Nat.reduceEqDiff, gix_nI, nI_clamp, bI_0, bI_gzb, Bool.true_eq_false, Bool.false_eq_true, e1, e2, nI_leI]
  by_cases hs : s b ≤ s a
  · rw [if_pos hs, Nat.min_eq_right hs]
  · rw [if_neg hs, Nat.min_eq_left (by omega)]
theorem Cagree {c : Nat} {σ : gS} {n W a b : Nat} {s K : Nat → Nat} (hM : CS c σ n s K W) (hR : Rg n s K W) (ha : a < n) (hb : b < n) : f_Cr_agree c (nI a) (nI b) σ = some (bI (decide (agr s K W a b))) := by
  have h1 := hR.sk ha
  have h2 := hR.sk hb
  have e1 := hM.2 a ha
  have e2 := hM.2 b hb
  unfold f_Cr_agree
  simp (disch := omega) only [gupE, gltE, gllE, litE, litLE, bindE, ↓reduceIte, gsi_at, gsi_l2, gsl_at, gsl_i1, upd_at, updL_at, Nat.reduceEqDiff, gix_nI, nI_clamp, bI_0, bI_gzb, Bool.true_eq_false, Bool.false_eq_true, e1, e2, nI_eq, hM.1.2, gabs_sub]
  by_cases hk : K a = K b
  · have : decide (agr s K W a b) = false := decide_eq_false fun q => q.1 hk
    simp only [hk, this, ↓reduceIte]
    rfl
  · by_cases hw : s a ≤ s b + W ∧ s b ≤ s a + W
    · have : decide (agr s K W a b) = true := decide_eq_true ⟨hk, hw⟩
      simp only [hk, hw, this, ↓reduceIte, not_true_eq_false, and_self]
      rfl
    · have : decide (agr s K W a b) = false := decide_eq_false fun q => hw q.2
      simp only [hk, hw, this, ↓reduceIte, not_false_eq_true]
      rfl
theorem Mhappened {σ : gS} {n W m : Nat} {s K : Nat → Nat} (hM : MS σ n s K W) (hR : Rg n s K W) (hm : m < 2147483648) : ∃ h, f_M_happenedBy (nI m) σ = some (nI h) ∧ Bits h (Hp n s K W (fun j => m.testBit j = true)) := by
  have hn := hR.1
  have e6 := hM.1.1
  unfold f_M_happenedBy
  simp only [litE]
  refine loopG (fun fu i a => f_M_happenedBy_L4 σ fu (nI m) (nI a) (nI i)) (fun o => ∃ h, o = some (nI h) ∧ Bits h (Hp n s K W (fun j => m.testBit j = true))) (fun i a => Bits a (Hp i s K W (fun j => m.testBit j = true))) n 0 0 (by omega) (by omega) (Bits.zero.cg fun w => ⟨False.elim, fun ⟨a, b, h1, h2, _⟩ => by omega⟩) ?_ ?_
  · intro fu i a hi hp
    left
    have inner := loopG (fun g j a => f_M_happenedBy_L15 σ (fun v1 v2 v3 => f_M_happenedBy_L4 σ fu v1 v2 v3) g (nI m) (nI a) (nI i) (nI j)) (fun o => ∃ a', o = f_M_happenedBy_L4 σ fu (nI m) (nI a') (nI (i + 1)) ∧ Bits a' (Hp (i + 1) s K W (fun j => m.testBit j = true)))
      (fun j a => Bits a (fun w => Hp i s K W (fun j => m.testBit j = true) w ∨ ∃ y, y < j ∧ m.testBit i = true ∧ m.testBit y = true ∧ agr s K W i y ∧ min (s i) (s y) = w)) i 0 a (by omega) (by omega) (hp.cg fun w => ⟨Or.inl, fun q => q.elim id fun ⟨y, h, _⟩ => by omega⟩) ?_ ?_
    · obtain ⟨a', e, p⟩ := inner
      refine ⟨a', ?_, p⟩
      rw [← e]
      have h1 : ¬ n ≤ i := by omega
      simp (disch := omega) only [f_M_happenedBy_L4, gupE, gltE, gllE, litE, litLE, bindE, ↓reduceIte, gsi_at, gsi_l2, gsl_at, gsl_i1, upd_at, updL_at, Nat.reduceEqDiff, gix_nI, nI_clamp, bI_0, bI_gzb, Bool.true_eq_false, Bool.false_eq_true, e6, nI_leI, h1]
    · intro g j a hj hp
      left
      have hs := hR.sk hi
      have hs2 := hR.sk (j := j) (by omega)
      have h1 : ¬ i ≤ j := by omega
      have hag := Magree hM hR hi (show j < n by omega)
      have hon := MagreedOn hM hR hi (show j < n by omega)
      have hcase : (m.testBit i = true ∧ m.testBit j = true ∧ agr s K W i j) ∨ ¬ (m.testBit i = true ∧ m.testBit j = true ∧ agr s K W i j) := Classical.em _
      rcases hcase with ⟨t1, t2, t3⟩ | hno
      · refine ⟨a ||| 2 ^ (min (s i) (s j)), ?_, ?_⟩
        · simp (disch := omega) only [f_M_happenedBy_L15, f_M_happenedBy_j62, gupE, gltE, gllE, litE, litLE, bindE, ↓reduceIte, gsi_at, gsi_l2, gsl_at, gsl_i1, upd_at, updL_at, Nat.reduceEqDiff, gix_nI, nI_clamp, bI_0, bI_gzb, Bool.true_eq_false, Bool.false_eq_true, nI_leI, h1, isIn_eq, t1, t2, hag, hon, decide_eq_true t3, sh1, nI_or, nI_add]
        · refine hp.or.cg fun w => ?_
          constructor
          · rintro ((h | ⟨y, h2, h3⟩) | h)
            · exact Or.inl h
            · exact Or.inr ⟨y, by omega, h3⟩
            · exact Or.inr ⟨j, by omega, t1, t2, t3, h.symm⟩
          · rintro (h | ⟨y, h2, h3⟩)
            · exact Or.inl (Or.inl h)
            · by_cases q : y = j
              · subst q
                exact Or.inr h3.2.2.2.symm
              · exact Or.inl (Or.inr ⟨y, by omega, h3⟩)
      · refine ⟨a, ?_, ?_⟩
        · cases t1 : m.testBit i with
          | false => simp (disch := omega) only [f_M_happenedBy_L15, f_M_happenedBy_j62, f_M_happenedBy_j61, gupE, gltE, gllE, litE, litLE, bindE, ↓reduceIte, gsi_at, gsi_l2, gsl_at, gsl_i1, upd_at, updL_at, Nat.reduceEqDiff, gix_nI, nI_clamp, bI_0, bI_gzb, Bool.true_eq_false, Bool.false_eq_true, nI_leI, h1, isIn_eq, t1, nI_or, nI_add, Nat.or_zero]
          | true =>
            cases t2 : m.testBit j with
            | false => simp (disch := omega) only [f_M_happenedBy_L15, f_M_happenedBy_j62, f_M_happenedBy_j61, gupE, gltE, gllE, litE, litLE, bindE, ↓reduceIte, gsi_at, gsi_l2, gsl_at, gsl_i1, upd_at, updL_at, Nat.reduceEqDiff, gix_nI, nI_clamp, bI_0, bI_gzb, Bool.true_eq_false, Bool.false_eq_true, nI_leI, h1, isIn_eq, t1, t2, nI_or, nI_add, Nat.or_zero]
            | true =>
              have t3 : ¬ agr s K W i j := fun q => hno ⟨t1, t2, q⟩
              simp (disch := omega) only [f_M_happenedBy_L15, f_M_happenedBy_j62, f_M_happenedBy_j61, gupE, gltE, gllE, litE, litLE, bindE, ↓reduceIte, gsi_at, gsi_l2, gsl_at, gsl_i1, upd_at, updL_at, Nat.reduceEqDiff, gix_nI, nI_clamp, bI_0, bI_gzb, Bool.true_eq_false, Bool.false_eq_true, nI_leI, h1, isIn_eq, t1, t2, hag, decide_eq_false t3, nI_or, nI_add, Nat.or_zero]
        · refine hp.cg fun w => or_congr Iff.rfl ⟨fun ⟨y, h2, h3⟩ => ⟨y, by omega, h3⟩, fun ⟨y, h2, h3⟩ => ?_⟩
          by_cases q : y = j
          · subst q
            exact absurd ⟨h3.1, h3.2.1, h3.2.2.1⟩ hno
          · exact ⟨y, by omega, h3⟩
    · intro g a hp
      refine ⟨a, ?_, ?_⟩
      · have h1 : nI i ≤ nI i := Int32.le_refl _
        simp (disch := omega) only [f_M_happenedBy_L15, gupE, gltE, gllE, litE, litLE, bindE, ↓reduceIte, gsi_at, gsi_l2, gsl_at, gsl_i1, upd_at, updL_at, Nat.reduceEqDiff, gix_nI, nI_clamp, bI_0, bI_gzb, Bool.true_eq_false, Bool.false_eq_true, h1, nI_add]
      · refine hp.cg fun w => ?_
        constructor
        · rintro (⟨x, y, h1, h2, h3⟩ | ⟨y, h1, h2⟩)
          · exact ⟨x, y, h1, by omega, h3⟩
          · exact ⟨i, y, h1, by omega, h2⟩
        · rintro ⟨x, y, h1, h2, h3⟩
          by_cases q : x = i
          · subst q
            exact Or.inr ⟨y, h1, h3⟩
          · exact Or.inl ⟨x, y, h1, by omega, h3⟩
  · intro fu a hp
    refine ⟨a, ?_, hp⟩
    have h1 : nI n ≤ nI n := Int32.le_refl _
    simp (disch := omega) only [f_M_happenedBy_L4, gupE, gltE, gllE, litE, litLE, bindE, ↓reduceIte, gsi_at, gsi_l2, gsl_at, gsl_i1, upd_at, updL_at, Nat.reduceEqDiff, gix_nI, nI_clamp, bI_0, bI_gzb, Bool.true_eq_false, Bool.false_eq_true, e6, h1]
