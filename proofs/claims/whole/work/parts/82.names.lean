/-! pure: the names of the law's text -/
def nmI (b : Nat) : Int32 := if b = 116 then nI 0 else if b = 101 then nI 1 else if b = 107 then nI 2 else if b = 112 then nI 3 else if b = 100 then nI 4 else if b = 99 then nI 5 else -nI 1
theorem nameOf_eq {b : Nat} (hb : b < 256) : f_M_nameOf (nI b) = some (nmI b) := by
  have h : ∀ b, b < 256 → f_M_nameOf (nI b) = some (nmI b) := by decide +kernel
  exact h b hb
theorem chr_eq {b : Nat} (hb : b < 256) : ((nI b).toUInt32 % 65536).toInt32 = nI b := by
  have h : ∀ b, b < 256 → ((nI b).toUInt32 % 65536).toInt32 = nI b := by decide +kernel
  exact h b hb
theorem indexOf_eq {b : Nat} (hb : b < 256) (σ : gS) : f_JS_indexOf (nI b) σ = some (nmI b) := by
  have h : ∀ b, b < 256 → (f_JL_indexOf (nI b) 0 6) = some (nmI b) := by decide +kernel
  have e : f_JS_indexOf (nI b) σ = (f_JL_indexOf (nI b) 0 6) := by
    have : f_JS_indexOf (nI b) σ = ((f_JL_indexOf (nI b) 0 6).bind fun q5 => some q5).bind fun q1 => some q1 := rfl
    rw [this]
    cases f_JL_indexOf (nI b) 0 6 <;> rfl
  rw [e]
  exact h b hb
theorem nmI_cases (b : Nat) : nmI b = -nI 1 ∨ ∃ c, c < 6 ∧ nmI b = nI c ∧ (c = 4 ↔ b = 100) ∧ 90 < b := by
  unfold nmI
  repeat' split
  all_goals first | exact Or.inl rfl | (right; refine ⟨_, ?_, rfl, ?_, ?_⟩ <;> omega)
