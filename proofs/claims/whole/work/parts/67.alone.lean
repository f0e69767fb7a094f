/-! pure: pairs: alone -/
/-- one if the two agree, and just on w -/
def agw (s K : Nat → Nat) (W w a b : Nat) : Nat := if agr s K W a b ∧ min (s a) (s b) = w then 1 else 0
theorem agw_cm (s K : Nat → Nat) (W w a b : Nat) : agw s K W w a b = agw s K W w b a := by
  unfold agw
  by_cases h : agr s K W a b ∧ min (s a) (s b) = w
  · rw [if_pos h, if_pos ⟨h.1.cm, by rw [Nat.min_comm]; exact h.2⟩]
  · rw [if_neg h, if_neg fun q => h ⟨q.1.cm, by rw [Nat.min_comm]; exact q.2⟩]
/-- so many agree on w: from the lesser one of each pair -/
def cw (n : Nat) (s K : Nat → Nat) (W w i : Nat) : Nat := sm (fun a => sm (fun b => if a < b then agw s K W w a b else 0) n) i
def One (n : Nat) (s K : Nat → Nat) (W w : Nat) : Prop := cw n s K W w n = 1
theorem sm_lt {g : Nat → Nat} {B : Nat} : ∀ k, (∀ j, j < k → g j ≤ B) → sm g k ≤ k * B
  | 0, _ => Nat.zero_le _
  | k + 1, h => by
    have h1 := sm_lt k fun j hj => h j (by omega)
    have h2 := h k (by omega)
    show sm g k + g k ≤ _
    rw [Nat.succ_mul]
    omega
theorem agw_le (s K : Nat → Nat) (W w a b : Nat) : agw s K W w a b ≤ 1 := by
  unfold agw
  split <;> omega
theorem Calone {σ : gS} {n W : Nat} {s K : Nat → Nat} (hM : CS 11 σ n s K W) (hR : Rg n s K W) : ∃ h, f_Cr_alone 11 σ = some (nI h) ∧ Bits h (One n s K W) := by
  have hn := hR.1
  have e2 := hM.1.1
  unfold f_Cr_alone
  simp only [litE]
  refine loopG (fun fu i (a : Nat × Nat) => f_Cr_alone_L6 11 σ fu (nI a.1) (nI a.2) (nI i)) (fun o => ∃ h, o = some (nI h) ∧ Bits h (One n s K W)) (fun i a => Bits a.1 (fun w => 1 ≤ cw n s K W w i) ∧ Bits a.2 (fun w => 2 ≤ cw n s K W w i)) n 0 (0, 0) (by omega) (by omega) ⟨Bits.zero.cg fun w => ⟨False.elim, fun q => absurd q (by show ¬ 1 ≤ 0; omega)⟩, Bits.zero.cg fun w => ⟨False.elim, fun q => absurd q (by show ¬ 2 ≤ 0; omega)⟩⟩ ?_ ?_
  · rintro fu i ⟨a, b⟩ hi ⟨h1, h2⟩
    left
    simp only at h1 h2
    have q0 : ¬ n ≤ i := by omega
    have z0 : ∀ w, sm (fun b => if i < b then agw s K W w i b else 0) (i + 1) = 0 := fun w => by
      rw [sm_cg (g2 := fun _ => 0) (i + 1) fun j hj => if_neg (by omega)]
      exact sm_zero _
    have inner := loopG (fun g j (p : Nat × Nat) => f_Cr_alone_L19 11 σ (fun v1 v2 v3 => f_Cr_alone_L6 11 σ fu v1 v2 v3) g (nI p.1) (nI p.2) (nI i) (nI j)) (fun o => ∃ a' : Nat × Nat, o = f_Cr_alone_L6 11 σ fu (nI a'.1) (nI a'.2) (nI (i + 1)) ∧ Bits a'.1 (fun w => 1 ≤ cw n s K W w (i + 1)) ∧ Bits a'.2 (fun w => 2 ≤ cw n s K W w (i + 1)))
      (fun j p => i + 1 ≤ j ∧ Bits p.1 (fun w => 1 ≤ cw n s K W w i + sm (fun b => if i < b then agw s K W w i b else 0) j) ∧ Bits p.2 (fun w => 2 ≤ cw n s K W w i + sm (fun b => if i < b then agw s K W w i b else 0) j)) n (i + 1) (a, b) (by omega) (by omega) ⟨Nat.le_refl _, h1.cg fun w => by rw [z0 w]; exact Iff.rfl, h2.cg fun w => by rw [z0 w]; exact Iff.rfl⟩ ?_ ?_
    · obtain ⟨a', e, p⟩ := inner
      refine ⟨a', ?_, p⟩
      show f_Cr_alone_L6 11 σ (fu + 1) (nI a) (nI b) (nI i) = _
      rw [← e]
      simp (maxSteps := 2000000) (disch := omega) only [f_Cr_alone_L6, gupE, gltE, gllE, litE, litLE, bindE, ↓reduceIte, gsi_at, gsi_l2, gsl_at, gsl_i1, upd_at, updL_at, Nat.reduceEqDiff, gix_nI, nI_clamp, bI_0, bI_gzb, Bool.true_eq_false, Bool.false_eq_true, e2, nI_leI, q0, nI_add]
    · rintro g j ⟨x, y⟩ hj ⟨hij, p1, p2⟩
      left
      simp only at p1 p2
      have q1 : ¬ n ≤ j := by omega
      have k1 := hR.sk hi
      have k2 := hR.sk hj
      have a1 := (hM.2 i hi).1
      have a2 := (hM.2 j hj).1
      have hag := Cagree hM hR hi hj
      have hstep : ∀ w, cw n s K W w i + sm (fun b => if i < b then agw s K W w i b else 0) (j + 1) = cw n s K W w i + sm (fun b => if i < b then agw s K W w i b else 0) j + agw s K W w i j := fun w => by
        show _ + (sm _ j + if i < j then agw s K W w i j else 0) = _
        rw [if_pos (by omega)]
        omega
      by_cases t : agr s K W i j
      · obtain ⟨bit, hbit⟩ : ∃ bit, bit = min (s i) (s j) := ⟨_, rfl⟩
        have agb : ∀ w, agw s K W w i j = if w = bit then 1 else 0 := fun w => by
          unfold agw
          by_cases q : w = bit
          · rw [if_pos q, if_pos ⟨t, by omega⟩]
          · rw [if_neg q, if_neg fun z => q (by omega)]
        refine ⟨(x ||| 2 ^ bit, y ||| (x &&& 2 ^ bit)), ?_, by omega, ?_, ?_⟩
        · simp (disch := omega) only [f_Cr_alone_L19, litE, e2, nI_leI, q1, ↓reduceIte, hag, decide_eq_true t, bindE, bI_0, Bool.true_eq_false, gix_nI, nI_clamp, a1, a2, gmin_nI, ← hbit, sh1, gltE]
          simp only [nI_or, nI_and, nI_add]
        · refine p1.or.cg fun w => ?_
          rw [hstep, agb]
          by_cases q : w = bit
          · rw [if_pos q]
            constructor
            · intro _; omega
            · intro _; exact Or.inr q
          · rw [if_neg q]
            constructor
            · rintro (z | z)
              · omega
              · exact absurd z q
            · intro z
              exact Or.inl (by omega)
        · intro w
          show (y ||| (x &&& 2 ^ bit)).testBit w = true ↔ _
          rw [Nat.testBit_or, Nat.testBit_and, Nat.testBit_two_pow, Bool.or_eq_true, Bool.and_eq_true, p1 w, p2 w, decide_eq_true_iff]
          show (2 ≤ cw n s K W w i + sm (fun b => if i < b then agw s K W w i b else 0) j ∨ 1 ≤ cw n s K W w i + sm (fun b => if i < b then agw s K W w i b else 0) j ∧ bit = w) ↔ 2 ≤ cw n s K W w i + sm (fun b => if i < b then agw s K W w i b else 0) (j + 1)
          rw [hstep, agb]
          by_cases q : w = bit
          · rw [if_pos q]
            constructor
            · rintro (z | ⟨z, -⟩) <;> omega
            · intro z
              by_cases z2 : 2 ≤ cw n s K W w i + sm (fun b => if i < b then agw s K W w i b else 0) j
              · exact Or.inl z2
              · exact Or.inr ⟨by omega, q.symm⟩
          · rw [if_neg q]
            constructor
            · rintro (z | ⟨-, z⟩)
              · omega
              · exact absurd z.symm q
            · intro z
              exact Or.inl (by omega)
      · have agb : ∀ w, agw s K W w i j = 0 := fun w => if_neg fun z => t z.1
        refine ⟨(x, y), ?_, by omega, p1.cg fun w => by rw [hstep, agb]; exact Iff.rfl, p2.cg fun w => by rw [hstep, agb]; exact Iff.rfl⟩
        simp (disch := omega) only [f_Cr_alone_L19, litE, e2, nI_leI, q1, ↓reduceIte, hag, decide_eq_false t, bindE, bI_0, nI_add]
    · rintro g ⟨x, y⟩ ⟨hij, p1, p2⟩
      have q1 : nI n ≤ nI n := Int32.le_refl _
      refine ⟨(x, y), ?_, p1, p2⟩
      simp (disch := omega) only [f_Cr_alone_L19, litE, e2, q1, ↓reduceIte, nI_add]
  · rintro fu ⟨a, b⟩ ⟨h1, h2⟩
    simp only at h1 h2
    have q1 : nI n ≤ nI n := Int32.le_refl _
    have a64 : a < 64 := h1.lt (k := 6) fun w hw => by
      refine Classical.byContradiction fun q => ?_
      have z : cw n s K W w n = 0 := by
        unfold cw
        rw [sm_cg (g2 := fun _ => 0) n fun a ha => ?_]
        · exact sm_zero n
        · rw [sm_cg (g2 := fun _ => 0) n fun b hb => ?_]
          · exact sm_zero n
          · by_cases l : a < b
            · rw [if_pos l]
              unfold agw
              rw [if_neg]
              rintro ⟨-, z⟩
              have := hR.sk ha
              omega
            · rw [if_neg l]
      omega
    refine ⟨a &&& (b ^^^ 4294967295), ?_, fun w => ?_⟩
    · have hx := nI_not (b := b) a64
      simp (disch := omega) only [f_Cr_alone_L6, litE, e2, q1, ↓reduceIte, hx]
    · rw [tb_not a64, h1 w, h2 w]
      unfold One
      omega
theorem Malone {σ : gS} {n W : Nat} {s K : Nat → Nat} (hM : MS σ n s K W) (hR : Rg n s K W) : ∃ h τ, f_M_aloneOf σ = some (nI h, τ) ∧ Bits h (One n s K W) ∧ Fr (only 70) σ τ := by
  have hn := hR.1
  have keep : ∀ τ, Fr (only 70) σ τ → MS τ n s K W := fun τ hF => ⟨⟨(only_ne hF (by decide) 6).trans hM.1.1, (only_ne hF (by decide) 41).trans hM.1.2⟩, fun j hj => ⟨(only_ne hF (by decide) j).trans (hM.2 j hj).1, (only_ne hF (by decide) j).trans (hM.2 j hj).2⟩⟩
  -- from the counts on
  have c82 : ∀ τ, Fr (only 70) σ τ → (∀ w, w < 6 → τ.1 70 w = nI (sm (fun a => sm (fun b => agw s K W w a b) a) n)) → ∃ h, f_M_aloneOf_L82 gfu (nI 0) (nI 0) τ = some (nI h, τ) ∧ Bits h (One n s K W) := by
    intro τ hF hc
    refine loopG (fun fu i a => f_M_aloneOf_L82 fu (nI a) (nI i) τ) (fun o => ∃ h, o = some (nI h, τ) ∧ Bits h (One n s K W)) (fun i a => Bits a (fun w => w < i ∧ One n s K W w)) 6 0 0 (by omega) (by omega) (Bits.zero.cg fun w => ⟨False.elim, fun q => absurd q.1 (Nat.not_lt_zero w)⟩) ?_ ?_
    · intro fu i a hi hp
      left
      have q1 : ¬ 6 ≤ i := by omega
      have hci := hc i hi
      have hcw : sm (fun a => sm (fun b => agw s K W i a b) a) n = cw n s K W i n := (sm_pairs (fun a b => agw_cm s K W i a b) n).symm
      have hle := sm_lt (g := fun a => sm (fun b => agw s K W i a b) a) (B := 10) n (fun a ha => by
        have : sm (fun b => agw s K W i a b) a ≤ a * 1 := sm_le (g := fun b => agw s K W i a b) (fun b => agw_le s K W i a b) a
        show sm (fun b => agw s K W i a b) a ≤ 10
        omega)
      by_cases q : One n s K W i
      · refine ⟨a ||| 2 ^ i, ?_, hp.or.cg fun w => ⟨?_, ?_⟩⟩
        · have e1 : τ.1 70 i = nI 1 := by rw [hci, hcw, q]
          simp (disch := omega) only [f_M_aloneOf_L82, f_M_aloneOf_j106, litE, nI_leI, q1, ↓reduceIte, gix_nI, nI_clamp, e1, sh1, nI_or, nI_add]
        · rintro (z | rfl)
          · exact ⟨by omega, z.2⟩
          · exact ⟨by omega, q⟩
        · rintro ⟨z1, z2⟩
          by_cases e : w = i
          · exact Or.inr e
          · exact Or.inl ⟨by omega, z2⟩
      · refine ⟨a, ?_, hp.cg fun w => ⟨fun z => ⟨by omega, z.2⟩, fun z => ⟨?_, z.2⟩⟩⟩
        · have e1 : ¬ τ.1 70 i = nI 1 := by
            rw [hci, hcw, nI_eq (by omega) (by omega)]
            exact q
          simp (disch := omega) only [f_M_aloneOf_L82, f_M_aloneOf_j106, litE, nI_leI, q1, ↓reduceIte, gix_nI, nI_clamp, e1, nI_or, Nat.or_zero, nI_add]
        · by_cases e : w = i
          · subst e
            exact absurd z.2 q
          · omega
    · intro fu a hp
      have q1 : nI 6 ≤ nI 6 := Int32.le_refl _
      refine ⟨a, ?_, hp.cg fun w => ⟨fun z => z.2, fun z => ⟨?_, z⟩⟩⟩
      · simp (disch := omega) only [f_M_aloneOf_L82, litE, q1, ↓reduceIte]
      · refine Classical.byContradiction fun q => ?_
        have zz : cw n s K W w n = 0 := by
          unfold cw
          rw [sm_cg (g2 := fun _ => 0) n fun a ha => ?_]
          · exact sm_zero n
          · rw [sm_cg (g2 := fun _ => 0) n fun b hb => ?_]
            · exact sm_zero n
            · by_cases l : a < b
              · rw [if_pos l]
                unfold agw
                rw [if_neg]
                rintro ⟨-, z⟩
                have := hR.sk ha
                omega
              · rw [if_neg l]
        unfold One at z
        omega
  have c23 : ∀ τ, Fr (only 70) σ τ → (∀ w, w < 6 → τ.1 70 w = nI 0) → ∃ h υ, f_M_aloneOf_L23 gfu (nI 0) τ = some (nI h, υ) ∧ Bits h (One n s K W) ∧ Fr (only 70) σ υ := by
    intro τ0 hF0 hc0
    refine loopG (fun fu i τ => f_M_aloneOf_L23 fu (nI i) τ) (fun o => ∃ h υ, o = some (nI h, υ) ∧ Bits h (One n s K W) ∧ Fr (only 70) σ υ) (fun i τ => Fr (only 70) σ τ ∧ ∀ w, w < 6 → τ.1 70 w = nI (sm (fun a => sm (fun b => agw s K W w a b) a) i)) n 0 τ0 (by omega) (by omega) ⟨hF0, hc0⟩ ?_ ?_
    · rintro fu i τ hi ⟨hF, hc⟩
      left
      have e6 := (keep τ hF).1.1
      have q1 : ¬ n ≤ i := by omega
      have inner := loopG (fun g j τ => f_M_aloneOf_L33 (fun v1 σ => f_M_aloneOf_L23 fu v1 σ) g (nI i) (nI j) τ) (fun o => ∃ υ, o = f_M_aloneOf_L23 fu (nI (i + 1)) υ ∧ Fr (only 70) σ υ ∧ ∀ w, w < 6 → υ.1 70 w = nI (sm (fun a => sm (fun b => agw s K W w a b) a) (i + 1))) (fun j τ => Fr (only 70) σ τ ∧ ∀ w, w < 6 → τ.1 70 w = nI (sm (fun a => sm (fun b => agw s K W w a b) a) i + sm (fun b => agw s K W w i b) j)) i 0 τ (by omega) (by omega) ⟨hF, hc⟩ ?_ ?_
      · obtain ⟨υ, e, h1, h2⟩ := inner
        refine ⟨υ, ?_, h1, h2⟩
        rw [← e]
        simp (disch := omega) only [f_M_aloneOf_L23, litE, e6, nI_leI, q1, ↓reduceIte]
      · rintro g j υ hj ⟨hFu, hcu⟩
        left
        have hMu := keep υ hFu
        have k1 := hR.sk hi
        have k2 := hR.sk (j := j) (by omega)
        have q2 : ¬ i ≤ j := by omega
        have hag := Magree hMu hR hi (show j < n by omega)
        have hon := MagreedOn hMu hR hi (show j < n by omega)
        obtain ⟨bit, hbit⟩ : ∃ bit, bit = min (s i) (s j) := ⟨_, rfl⟩
        rw [← hbit] at hon
        have hcb := hcu bit (by omega)
        have hstep : ∀ w, sm (fun a => sm (fun b => agw s K W w a b) a) i + sm (fun b => agw s K W w i b) (j + 1) = sm (fun a => sm (fun b => agw s K W w a b) a) i + sm (fun b => agw s K W w i b) j + agw s K W w i j := fun w => by
          show _ + (sm _ j + agw s K W w i j) = _
          omega
        have agb : ∀ w, w ≠ bit → agw s K W w i j = 0 := fun w q => if_neg fun z => q (by omega)
        refine ⟨gpi υ 70 bit (nI (sm (fun a => sm (fun b => agw s K W bit a b) a) i + sm (fun b => agw s K W bit i b) j + agw s K W bit i j)), ?_, hFu.pi rfl, fun w hw => ?_⟩
        · by_cases t : agr s K W i j
          · have e1 : agw s K W bit i j = 1 := if_pos ⟨t, hbit.symm⟩
            rw [e1]
            simp (disch := omega) only [f_M_aloneOf_L33, f_M_aloneOf_j64, litE, nI_leI, q2, ↓reduceIte, hon, bindE, gix_nI, nI_clamp, hag, decide_eq_true t, bI_0, Bool.true_eq_false, hcb, nI_add, gupE]
          · have e1 : agw s K W bit i j = 0 := if_neg fun z => t z.1
            rw [e1]
            simp (disch := omega) only [f_M_aloneOf_L33, f_M_aloneOf_j64, litE, nI_leI, q2, ↓reduceIte, hon, bindE, gix_nI, nI_clamp, hag, decide_eq_false t, bI_0, hcb, nI_add, gupE]
        · rw [gpi_at, hstep]
          by_cases q : w = bit
          · rw [if_pos ⟨rfl, q⟩, q]
          · rw [if_neg fun z => q z.2, agb w q, Nat.add_zero]
            exact hcu w hw
      · rintro g υ ⟨hFu, hcu⟩
        have q2 : nI i ≤ nI i := Int32.le_refl _
        refine ⟨υ, ?_, hFu, fun w hw => (hcu w hw).trans rfl⟩
        simp (disch := omega) only [f_M_aloneOf_L33, litE, q2, ↓reduceIte, nI_add]
    · rintro fu τ ⟨hF, hc⟩
      have e6 := (keep τ hF).1.1
      have q1 : nI n ≤ nI n := Int32.le_refl _
      obtain ⟨h, e, hb⟩ := c82 τ hF hc
      refine ⟨h, τ, ?_, hb, hF⟩
      rw [← e]
      simp (disch := omega) only [f_M_aloneOf_L23, litE, e6, q1, ↓reduceIte]
  unfold f_M_aloneOf
  simp only [litE]
  refine loopG (fun fu i τ => f_M_aloneOf_L2 fu (nI i) τ) (fun o => ∃ h τ, o = some (nI h, τ) ∧ Bits h (One n s K W) ∧ Fr (only 70) σ τ) (fun i τ => Fr (only 70) σ τ ∧ ∀ w, w < i → τ.1 70 w = nI 0) 6 0 σ (by omega) (by omega) ⟨Fr.rf _ _, fun w h => absurd h (Nat.not_lt_zero w)⟩ ?_ ?_
  · rintro fu i τ hi ⟨hF, hc⟩
    left
    have q1 : ¬ 6 ≤ i := by omega
    refine ⟨gpi τ 70 i (nI 0), ?_, hF.pi rfl, fun w hw => ?_⟩
    · simp (disch := omega) only [f_M_aloneOf_L2, litE, nI_leI, q1, ↓reduceIte, gix_nI, nI_clamp, gupE, nI_add]
    · rw [gpi_at]
      by_cases q : w = i
      · rw [if_pos ⟨rfl, q⟩]
      · rw [if_neg fun z => q z.2]
        exact hc w (by omega)
  · rintro fu τ ⟨hF, hc⟩
    have q1 : nI 6 ≤ nI 6 := Int32.le_refl _
    obtain ⟨h, υ, e, hh⟩ := c23 τ hF hc
    refine ⟨h, υ, ?_, hh⟩
    rw [← e]
    simp (disch := omega) only [f_M_aloneOf_L2, litE, q1, ↓reduceIte]
