def gs0 : gS := (fun c => if c < 59 then fun _ => 0 else gzm.1 (c - 59), fun _ _ => 0)
theorem law_true {XL : Nat} {xs : Nat → Int32} (h : XL ≤ 3072) : f_law_L18 XL xs gfu 0 gs0 = some 1 := sorry
