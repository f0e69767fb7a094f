/-! pure: byTurns, both agree -/
theorem cT_s (c k : Nat) (h : cT c k = true) : inT [0] c k = true := by
  unfold cT at h
  simp only [Bool.or_eq_true, Bool.and_eq_true, beq_iff_eq] at h
  apply inT0
  simp only [cPeo, cTap, cLw, cChg, cLed, cPic, cWrd, cShv, Bool.or_eq_false_iff, Bool.and_eq_false_iff, beq_eq_false_iff_ne, ne_eq, decide_eq_false_iff_not]
  omega
theorem c18_s (c k : Nat) (h : (c == 18) = true) : inT [0] c k = true := by
  simp only [beq_iff_eq] at h
  apply inT0
  simp only [cPeo, cTap, cLw, cChg, cLed, cPic, cWrd, cShv, Bool.or_eq_false_iff, Bool.and_eq_false_iff, beq_eq_false_iff_ne, ne_eq, decide_eq_false_iff_not]
  omega
theorem Mfirst_L {n W w N r : Nat} {s K P : Nat → Nat} {B : Nat → Int32} {lf : (Nat → Nat) → Bool} (hP : ∀ j, j < n → P j < 100) (hw : w < 6) (hN : N ≤ 4) (hr : N = r + 1) (hlf : ∀ s, lf s = true ↔ Hp n s K W (fun _ => True) w) {σ : gS} (h : MR σ n s K P W B) (hR : Rg n s K W) {X F : Int} {m : Nat → Int} {q : Nat}
    (hX : -500 ≤ X ∧ X ≤ 500) (hm : ∀ c, m c = gv n w P lf r 1 (sset s c (swt w 0)) (tcl (Tm B 0) c) + prt P 0 c) (hF : F = gfd true (Tm B 0) X m n) (hq : q = bsf (Tm B 0) X m n) :
    ∃ τ, f_M_byTurns_j73 (nI w) (nI N) (zI F) (if X = F then nI 10 else -nI 1) σ = some (nI q, τ) ∧ Fr (only 67) σ τ := by
  have hn := hR.1
  have hx := gv_b (w := w) (lf := lf) hP r 1
  have hmb : ∀ j, j < n → -1000 ≤ m j ∧ m j ≤ 1000 := by
    intro j hj
    have h1 := hx (sset s j (swt w 0)) (tcl (Tm B 0) j)
    have h2 := prt_b (t := 0) (hP j hj)
    rw [hm j]
    omega
  have hFb := gfd_b (ev := true) (T := Tm B 0) (x := X) (A := 1000) (m := m) (by omega) n hmb
  rw [← hF] at hFb
  have hbs := bsf_is (T := Tm B 0) (x := X) (m := m) n
  rw [← hF, ← hq] at hbs
  have stop : ∀ (fu : Nat) (v : Nat) (i : Nat) (υ : gS), v < 100 → υ.1 59 6 = nI n → f_M_byTurns_L78 (fu + 1) (nI w) (nI N) (zI F) (nI v) (nI i) υ = some (nI v, υ) := by
    intro fu v i υ hv h6
    rw [f_M_byTurns_L78]
    simp only [litE]
    rw [if_pos (show nI 0 ≤ nI v by rw [nI_leI (by omega) (by omega)]; omega)]
    split <;> rfl
  unfold f_M_byTurns_j73
  simp only [litE]
  rcases hbs with ⟨g1, g2⟩ | ⟨g1, g2, g3, g4, g5⟩
  · rw [if_pos g1.symm, g2]
    exact ⟨σ, stop 1999 10 0 σ (by decide) h.1.1.1, Fr.rf _ _⟩
  · rw [if_neg (by omega)]
    refine loopG (fun fu i (a : Bool × gS) => f_M_byTurns_L78 fu (nI w) (nI N) (zI F) (if a.1 = true then nI q else -nI 1) (nI i) a.2)
      (fun o => ∃ τ, o = some (nI q, τ) ∧ Fr (only 67) σ τ) (fun i a => MR a.2 n s K P W B ∧ Fr (only 67) σ a.2 ∧ (a.1 = false → i ≤ q)) n 0 (false, σ) (by omega) (by omega) ⟨h, Fr.rf _ _, fun _ => Nat.zero_le _⟩ ?_ ?_
    · rintro fu i ⟨b, υ⟩ hi ⟨b1, b2, b3⟩
      simp only at b1 b2 b3
      cases b with
      | true =>
        right
        exact ⟨υ, stop fu q i υ (by omega) b1.1.1.1, b2⟩
      | false =>
        left
        have b3 := b3 rfl
        have u6 : υ.1 59 6 = nI n := b1.1.1.1
        have uB := b1.2.2 i hi
        have hneg : ¬ nI 0 ≤ -nI 1 := by decide
        cases ti : Tm B 0 i with
        | false =>
          have hiq : i ≠ q := by
            rintro rfl
            rw [ti] at g3
            cases g3
          refine ⟨(false, υ), ?_, b1, b2, fun _ => by omega⟩
          show f_M_byTurns_L78 (fu + 1) (nI w) (nI N) (zI F) (-nI 1) (nI i) υ = f_M_byTurns_L78 fu (nI w) (nI N) (zI F) (-nI 1) (nI (i + 1)) υ
          rw [f_M_byTurns_L78]
          simp only [litE]
          rw [u6, if_neg (nI_ge hi (by omega)), if_neg hneg, nI_add, if_pos (gix_nI (by omega) (by decide)), nI_clamp (by omega), uB]
          rcases Blt ti with q | ⟨-, q2⟩
          · rw [if_pos q, nI_add]
          · rw [Nat.zero_testBit] at q2
            cases q2
        | true =>
          obtain ⟨q1, -⟩ := Bge ti
          have b1' : MR (gpi υ 67 i (nI w)) n (sset s i w) K P W B := b1.set i w
          obtain ⟨τ2, c1, c2, c3⟩ := Mplay (B := B) hP hw hN hlf r 1 6 (2 ^ i) (sset s i w) (gpi υ 67 i (nI w)) (by omega) (by omega) (show 2 ^ i < 2 ^ 10 from Nat.pow_lt_pow_right (by decide) (by omega)) b1' (hR.set hw)
          have hmi := hm i
          rw [show swt w 0 = w from rfl, ← Tm_or, Nat.zero_or] at hmi
          have hmib := hmb i hi
          generalize gv n w P lf r 1 (sset s i w) (Tm B (2 ^ i)) = Y at c1 hmi
          have hback := c2.set i (s i)
          rw [sset_back] at hback
          have uP := c2.2.1 i hi
          have us := (b1.1.2 i hi).1
          have hPi := hP i hi
          have ep : zI Y - nI (P i) = zI (m i) := by
            rw [zI_nI, zI_sub, hmi]
            unfold prt
            rw [if_pos rfl]
            rfl
          refine ⟨(decide (m i = F), gpi τ2 67 i (nI (s i))), ?_, hback, ((b2.pi rfl).tr c3).pi rfl, fun z => ?_⟩
          · show f_M_byTurns_L78 (fu + 1) (nI w) (nI N) (zI F) (-nI 1) (nI i) υ = f_M_byTurns_L78 fu (nI w) (nI N) (zI F) (if decide (m i = F) = true then nI q else -nI 1) (nI (i + 1)) (gpi τ2 67 i (nI (s i)))
            rw [f_M_byTurns_L78]
            simp only [litE]
            rw [u6, if_neg (nI_ge hi (by omega)), if_neg hneg, nI_add, if_pos (gix_nI (by omega) (by decide)), nI_clamp (by omega), uB, if_neg q1, if_pos (gix_nI (by omega) (by decide)), nI_clamp (by omega), gltE, us, if_pos (gix_nI (by omega) (by decide)), gupE, sh1 (by omega), c1, bindE, nI_add, if_pos (gix_nI (by omega) (by decide)), nI_clamp (by omega), uP, ep]
            unfold f_M_byTurns_j155
            simp only [litE]
            by_cases e : m i = F
            · have hiq : i = q := by
                rcases Nat.lt_or_ge i q with z | z
                · have := g5 i z ti
                  omega
                · omega
              rw [if_pos (show zI (m i) = zI F by rw [e]), if_pos (gix_nI (by omega) (by decide)), gupE, nI_clamp (by omega), nI_add, decide_eq_true e, if_pos rfl, hiq]
            · rw [if_neg (show ¬ zI (m i) = zI F by rw [zI_eq (by omega) (by omega)]; exact e), if_pos (gix_nI (by omega) (by decide)), gupE, nI_clamp (by omega), nI_add, decide_eq_false e, if_neg (by decide)]
          · have e : m i ≠ F := of_decide_eq_false z
            have hiq : i ≠ q := by
              rintro rfl
              exact e g4
            omega
    · rintro fu ⟨b, υ⟩ ⟨b1, b2, b3⟩
      simp only at b1 b2 b3
      cases b with
      | true => exact ⟨υ, stop fu q n υ (by omega) b1.1.1.1, b2⟩
      | false =>
        have := b3 rfl
        omega
theorem ag_byTurns (v1 v2 v3 : Int32) : Agr (f_T_byTurns v1 v2 v3) (f_M_byTurns v1 v2 v3) := by
  refine agr_q fun σ n K E P B F W D m V h => ?_
  have hn := h.1.1.1
  have hr := h.rg
  have hPP : ∀ j, j < n → P j < 100 := fun j hj => (h.1.2.1 j hj).1.2.2.1
  unfold f_T_byTurns f_M_byTurns
  cases hv : inb v1 6 with
  | false =>
    refine ⟨-2000000000, ⟨σ, ?_, Fr.rf _ _⟩, fun τ hF hC => ⟨τ, ?_, Fr.rf _ _⟩⟩
    · rw [show f_T_within v1 6 = some (bI false) from w3_f hv (by decide), bindE, if_pos (by decide)]
    · rw [isWeather_eq, hv, bindE, if_pos (by decide)]
  | true =>
    obtain ⟨w, hw, rfl⟩ := inb_of hv (by omega)
    have hw1 : f_T_within (nI w) 6 = some (bI true) := w3_t hv (by decide)
    have hMw : f_M_within v2.toInt64 1 4 = some (bI (decide ((1 : Int) ≤ v2.toInt) && decide (v2.toInt ≤ (4 : Int)))) := Mwithin_p v2 (a := 1) (b := 4) (by decide) (by decide) (by decide)
    have i1 : (1 : Int32).toInt = 1 := by decide
    have i4 : (4 : Int32).toInt = 4 := by decide
    by_cases lo : v2 < 1
    · have lo' : v2.toInt < 1 := by
        rw [i_lt, i1] at lo
        exact lo
      refine ⟨-2000000000, ⟨σ, ?_, Fr.rf _ _⟩, fun τ hF hC => ⟨τ, ?_, Fr.rf _ _⟩⟩
      · rw [hw1, bindE, if_neg (by decide), if_pos lo]
      · rw [isWeather_eq, hv, bindE, if_neg (by decide), hMw, decide_eq_false (show ¬ (1 : Int) ≤ v2.toInt by omega), Bool.false_and, bindE, if_pos (by decide)]
    · have lo' : 1 ≤ v2.toInt := by
        rw [i_lt, i1] at lo
        omega
      by_cases hi : 4 < v2
      · have hi' : 4 < v2.toInt := by
          rw [i_lt, i4] at hi
          exact hi
        refine ⟨-2000000000, ⟨σ, ?_, Fr.rf _ _⟩, fun τ hF hC => ⟨τ, ?_, Fr.rf _ _⟩⟩
        · rw [hw1, bindE, if_neg (by decide), if_neg lo, if_pos hi]
        · rw [isWeather_eq, hv, bindE, if_neg (by decide), hMw, decide_eq_false (show ¬ v2.toInt ≤ (4 : Int) by omega), Bool.and_false, bindE, if_pos (by decide)]
      · have hi' : v2.toInt ≤ 4 := by
          rw [i_lt, i4] at hi
          omega
        rw [decide_eq_true lo', decide_eq_true hi', Bool.and_self] at hMw
        obtain ⟨N, hN1, hN4, rfl⟩ : ∃ N : Nat, 1 ≤ N ∧ N ≤ 4 ∧ v2 = nI N := by
          refine ⟨v2.toInt.toNat, by omega, by omega, Int32.toInt_inj.mp ?_⟩
          rw [nI_toInt (by omega)]
          omega
        cases hv3 : inb v3 2 with
        | false =>
          refine ⟨-2000000000, ⟨σ, ?_, Fr.rf _ _⟩, fun τ hF hC => ⟨τ, ?_, Fr.rf _ _⟩⟩
          · rw [hw1, bindE, if_neg (by decide), if_neg lo, if_neg hi, show f_T_within v3 2 = some (bI false) from w3_f hv3 (by decide), bindE, if_pos (by decide)]
          · rw [isWeather_eq, hv, bindE, if_neg (by decide), hMw, bindE, if_neg (by decide), show f_M_within v3.toInt64 0 1 = some (bI false) from m3_f hv3 (by decide), bindE, if_pos (by decide)]
        | true =>
          obtain ⟨t, ht, rfl⟩ := inb_of hv3 (by omega)
          obtain ⟨r, rfl⟩ : ∃ r, N = r + 1 := ⟨N - 1, by omega⟩
          generalize hs : sy V K E P B F D = s at hr
          obtain ⟨s7, a1, a2, a3⟩ := Tbegin h
          rw [hs] at a2
          obtain ⟨hCS, h26, sale, l1, l2⟩ := a2
          have l3 : sale < 1024 := l2.lt (k := 10) fun j hj => by omega
          let lf : (Nat → Nat) → Bool := fun s => @decide (Hp n s K W (fun _ => True) w) (Classical.propDecidable _)
          have hlf : ∀ s, lf s = true ↔ Hp n s K W (fun _ => True) w := fun s => @decide_eq_true_iff _ (Classical.propDecidable _)
          generalize lf = lf at hlf
          have hTS : TS (gpi (gpi (gpi s7 18 3 (nI w)) 18 4 (nI (r + 1))) 18 8 (nI 10)) n s K P W w (r + 1) (Tm B 0) := by
            refine ⟨⟨hCS.1, hCS.2⟩, h26, ⟨sale, l3, l1, l2.cg fun j => ?_⟩, rfl, rfl⟩
            unfold Tm
            simp only [Nat.zero_testBit, Bool.not_false, Bool.and_true, decide_eq_true_eq]
          obtain ⟨x, τ8, b1, b2, b3, b4, b5, -, b7⟩ := Tbest hPP hw hN4 hlf (r + 1) 0 6 s (Tm B 0) _ 0 (-1000000) 1000000 (by omega) (by omega) hTS hr (by omega) (by omega)
          have hFb := gv_b (w := w) (lf := lf) hPP (r + 1) 0 s (Tm B 0)
          have hx : x = gv n w P lf (r + 1) 0 s (Tm B 0) := by
            have := b3.2.2 (by omega) (by omega)
            omega
          have b7 := b7 r rfl rfl rfl rfl rfl
          have hplay : f_Br_play (nI w) (nI (r + 1)) s7 = some (zI x, τ8) := by
            unfold f_Br_play
            simp only [litE]
            rw [gupE, gupE, gupE]
            have z0 : (nI 0) = zI 0 := zI_nI 0
            have z1 : -nI 1000000 = zI (-1000000) := by rw [zI_nI, zI_neg]; rfl
            have z2 : nI 1000000 = zI 1000000 := zI_nI 1000000
            have b1' : f_Br_bestFrom 6 (nI 0) (nI 0) (-nI 1000000) (nI 1000000) (gpi (gpi (gpi s7 18 3 (nI w)) 18 4 (nI (r + 1))) 18 8 (nI 10)) = some (zI x, τ8) := by
              rw [z1, z2]
              rw [show f_Br_bestFrom 6 (nI 0) (nI 0) = f_Br_bestFrom 6 (nI 0) (zI 0) by rw [z0]]
              exact b1
            rw [b1', bindE]
          have F8 : Frs σ τ8 := a3.tr ((fr_no ((((Fr.rf (fun c _ => c == 18) s7).pi rfl).pi rfl).pi rfl) c18_s).tr (fr_no b5 cT_s))
          refine ⟨if nI t = 0 then zI x else τ8.1 18 8, ⟨τ8, ?_, F8⟩, fun τ hF hC => ?_⟩
          · rw [hw1, bindE, if_neg (by decide), if_neg lo, if_neg hi, show f_T_within (nI t) 2 = some (bI true) from w3_t hv3 (by decide), bindE, if_neg (by decide), a1, bindE, hplay, bindE]
            split <;> rfl
          · obtain ⟨υ, c1, c2, c3⟩ := Snow hC
            rw [hs] at c2
            have hMR : MR υ n s K P W B := ⟨c2, fun j hj => (c3.1 60 (20 + j) rfl).trans (hC.1.2.1 j hj).2.2.2.2.1, fun j hj => (c3.1 60 (30 + j) rfl).trans (hC.1.2.1 j hj).2.2.2.2.2⟩
            obtain ⟨υ2, d1, d2, d3⟩ := Mplay hPP hw hN4 hlf (r + 1) 0 6 0 s υ (by omega) (by omega) (by decide) hMR hr
            rw [← hx] at d1
            have d3' : Frs υ υ2 := fr_no d3 (only_s (by omega))
            have e0 : f_M_playsFrom 6 (nI w) 0 (nI (r + 1)) 0 υ = some (zI x, υ2) := d1
            by_cases t0 : nI t = 0
            · refine ⟨υ2, ?_, c3.tr d3'⟩
              rw [isWeather_eq, hv, bindE, if_neg (by decide), hMw, bindE, if_neg (by decide), show f_M_within (nI t).toInt64 0 1 = some (bI true) from m3_t hv3 (by decide), bindE, if_neg (by decide), c1, bindE, e0, bindE, if_pos t0, if_pos t0]
            · obtain ⟨υ3, f1, f2, f3⟩ := Mplay hPP hw hN4 hlf r 1 6 0 s υ2 (by omega) (by omega) (by decide) d2 hr
              have f3' : Frs υ2 υ3 := fr_no f3 (only_s (by omega))
              have e1 : f_M_playsFrom 6 (nI w) 1 (nI (r + 1)) 0 υ2 = some (zI (gv n w P lf r 1 s (Tm B 0)), υ3) := f1
              have hXb := gv_b (w := w) (lf := lf) hPP r 1 s (Tm B 0)
              obtain ⟨υ4, g1, g2⟩ := Mfirst_L (B := B) hPP hw hN4 rfl hlf f2 hr (X := gv n w P lf r 1 s (Tm B 0)) (F := x) (m := fun c => gv n w P lf r 1 (sset s c (swt w 0)) (tcl (Tm B 0) c) + prt P 0 c) (q := bsf (Tm B 0) (gv n w P lf r 1 s (Tm B 0)) (fun c => gv n w P lf r 1 (sset s c (swt w 0)) (tcl (Tm B 0) c) + prt P 0 c) n) (by omega) (fun c => rfl) (by rw [hx]; rfl) rfl
              refine ⟨υ4, ?_, ((c3.tr d3').tr f3').tr (fr_no g2 (only_s (by omega)))⟩
              rw [isWeather_eq, hv, bindE, if_neg (by decide), hMw, bindE, if_neg (by decide), show f_M_within (nI t).toInt64 0 1 = some (bI true) from m3_t hv3 (by decide), bindE, if_neg (by decide), c1, bindE, e0, bindE, if_neg t0, if_neg t0, e1, bindE, b7]
              by_cases e : gv n w P lf r 1 s (Tm B 0) = x
              · rw [if_pos e] at g1
                rw [if_pos (show zI (gv n w P lf r 1 s (Tm B 0)) = zI x by rw [e])]
                exact g1
              · rw [if_neg e] at g1
                rw [if_neg (show ¬ zI (gv n w P lf r 1 s (Tm B 0)) = zI x by rw [zI_eq (by omega) (by omega)]; exact e)]
                exact g1
