def f_T_drawn_j173 (k65 : Int32 → Int32 → Int32 → Int32 → Int32 → Int32 → gS → Option (Int32 × gS)) (v3 : Int32) (v4 : Int32) (v5 : Int32) (v6 : Int32) (v7 : Int32) (v8 : Int32) (σ : gS) : Option (Int32 × gS) :=
  k65 v3 v4 v5 v6 (v7 + (1 : Int32)) (v8 + (1 : Int32)) σ
theorem s_T_drawn_j173 (d : Nat) (hd : 6 ≤ d) (k65 : Int32 → Int32 → Int32 → Int32 → Int32 → Int32 → gS → Option (Int32 × gS)) (hk65 : ∀ (v3 : Int32) (v4 : Int32) (v5 : Int32) (v6 : Int32) (v7 : Int32) (v8 : Int32) (τ : gS), S wI m_T_drawn d 65 [some (.ref 0), none, none, some (.int v3), some (.int v4), some (.int v5), some (.int v6), some (.int v7), some (.int v8), none] [] τ (k65 v3 v4 v5 v6 v7 v8 τ)) (v3 : Int32) (v4 : Int32) (v5 : Int32) (v6 : Int32) (v7 : Int32) (v8 : Int32) (σ : gS) : S wI m_T_drawn d 173 [some (.ref 0), none, none, some (.int v3), some (.int v4), some (.int v5), some (.int v6), some (.int v7), some (.int v8), none] [] σ (f_T_drawn_j173 k65 v3 v4 v5 v6 v7 v8 σ) := by
  unfold f_T_drawn_j173
  refine S.of1 (pc2 := 176) (L2 := [some (.ref 0), none, none, some (.int v3), some (.int v4), some (.int v5), some (.int v6), some (.int (v7 + (1 : Int32))), some (.int v8), none]) (fun Q => g_iinc d_T_drawn_173 rfl (congrArg (fun z => v7 + z) (by decide)) (Nat.le_of_ble_eq_true rfl) rfl) ?_
  refine S.of1 (pc2 := 179) (L2 := [some (.ref 0), none, none, some (.int v3), some (.int v4), some (.int v5), some (.int v6), some (.int (v7 + (1 : Int32))), some (.int (v8 + (1 : Int32))), none]) (fun Q => g_iinc d_T_drawn_176 rfl (congrArg (fun z => v8 + z) (by decide)) (Nat.le_of_ble_eq_true rfl) rfl) ?_
  refine S.of1 (pc2 := 65) (fun Q => g_goto d_T_drawn_179 rfl) ?_
  exact S.wk (L2 := [some (.ref 0), none, none, some (.int v3), some (.int v4), some (.int v5), some (.int v6), some (.int (v7 + (1 : Int32))), some (.int (v8 + (1 : Int32))), none]) (And.intro rfl (And.intro rfl (And.intro rfl (And.intro rfl (And.intro rfl (And.intro rfl (And.intro rfl trivial))))))) (hk65 v3 v4 v5 v6 (v7 + (1 : Int32)) (v8 + (1 : Int32)) σ)
def f_T_drawn_j148 (k65 : Int32 → Int32 → Int32 → Int32 → Int32 → Int32 → gS → Option (Int32 × gS)) (v3 : Int32) (v4 : Int32) (v5 : Int32) (v6 : Int32) (v7 : Int32) (v8 : Int32) (s0 : Int32) (σ : gS) : Option (Int32 × gS) :=
  if v3 = (6 : Int32) then if s0 = 0 then f_T_drawn_j173 k65 v3 v4 v5 v6 v7 v8 σ else k65 v3 v4 v5 v6 v7 (v8 + (1 : Int32)) σ else (f_T_has s0 v3).bind fun q18 => if q18 = 0 then k65 v3 v4 v5 v6 v7 (v8 + (1 : Int32)) σ else f_T_drawn_j173 k65 v3 v4 v5 v6 v7 v8 σ
theorem s_T_drawn_j148 (d : Nat) (hd : 6 ≤ d) (k65 : Int32 → Int32 → Int32 → Int32 → Int32 → Int32 → gS → Option (Int32 × gS)) (hk65 : ∀ (v3 : Int32) (v4 : Int32) (v5 : Int32) (v6 : Int32) (v7 : Int32) (v8 : Int32) (τ : gS), S wI m_T_drawn d 65 [some (.ref 0), none, none, some (.int v3), some (.int v4), some (.int v5), some (.int v6), some (.int v7), some (.int v8), none] [] τ (k65 v3 v4 v5 v6 v7 v8 τ)) (v3 : Int32) (v4 : Int32) (v5 : Int32) (v6 : Int32) (v7 : Int32) (v8 : Int32) (s0 : Int32) (σ : gS) : S wI m_T_drawn d 148 [some (.ref 0), none, none, some (.int v3), some (.int v4), some (.int v5), some (.int v6), some (.int v7), some (.int v8), none] [.int s0] σ (f_T_drawn_j148 k65 v3 v4 v5 v6 v7 v8 s0 σ) := by
  unfold f_T_drawn_j148
  refine S.of1 (pc2 := 150) (L2 := [some (.ref 0), none, none, some (.int v3), some (.int v4), some (.int v5), some (.int v6), some (.int v7), some (.int v8), some (.int s0)]) (fun Q => g_istore d_T_drawn_148 (Nat.le_of_ble_eq_true rfl) rfl) ?_
  refine S.of1 (pc2 := 151) (fun Q => g_iload_n d_T_drawn_150 rfl) ?_
  refine S.of1 (pc2 := 153) (fun Q => g_bipush (v := (6 : Int32)) d_T_drawn_151 (by decide)) ?_
  refine S.br (c := v3 = (6 : Int32)) (t := 156) (e := 164) (fun Q kt kf => g_icmp_ne d_T_drawn_153 rfl kf kt) (fun h16 => ?_) (fun h16 => ?_)
  · refine S.of1 (pc2 := 158) (fun Q => g_iload d_T_drawn_156 rfl) ?_
    refine S.br (c := s0 = 0) (t := 161) (e := 176) (fun Q kt kf => g_if_ne d_T_drawn_158 rfl kf kt) (fun h17 => ?_) (fun h17 => ?_)
    · refine S.of1 (pc2 := 173) (fun Q => g_goto d_T_drawn_161 rfl) ?_
      exact S.wk (L2 := [some (.ref 0), none, none, some (.int v3), some (.int v4), some (.int v5), some (.int v6), some (.int v7), some (.int v8), none]) (And.intro rfl (And.intro rfl (And.intro rfl (And.intro rfl (And.intro rfl (And.intro rfl (And.intro rfl trivial))))))) (s_T_drawn_j173 d hd k65 hk65 v3 v4 v5 v6 v7 v8 σ)
    · refine S.of1 (pc2 := 179) (L2 := [some (.ref 0), none, none, some (.int v3), some (.int v4), some (.int v5), some (.int v6), some (.int v7), some (.int (v8 + (1 : Int32))), some (.int s0)]) (fun Q => g_iinc d_T_drawn_176 rfl (congrArg (fun z => v8 + z) (by decide)) (Nat.le_of_ble_eq_true rfl) rfl) ?_
      refine S.of1 (pc2 := 65) (fun Q => g_goto d_T_drawn_179 rfl) ?_
      exact S.wk (L2 := [some (.ref 0), none, none, some (.int v3), some (.int v4), some (.int v5), some (.int v6), some (.int v7), some (.int (v8 + (1 : Int32))), none]) (And.intro rfl (And.intro rfl (And.intro rfl (And.intro rfl (And.intro rfl (And.intro rfl (And.intro rfl trivial))))))) (hk65 v3 v4 v5 v6 v7 (v8 + (1 : Int32)) σ)
  · refine S.of1 (pc2 := 166) (fun Q => g_iload d_T_drawn_164 rfl) ?_
    refine S.of1 (pc2 := 167) (fun Q => g_iload_n d_T_drawn_166 rfl) ?_
    refine S.call_rI (pc3 := 170) rfl (c_T_has (d - 1) (by omega) s0 v3 σ) (fun Q => g_callS (M2 := m_T_has) (vs := [.int s0, .int v3]) (st := []) ls_RX10_160 rfl (Nat.le_of_ble_eq_true rfl) (by omega) (Nat.le_of_ble_eq_true rfl) rfl d_T_drawn_167) (fun q18 => ?_)
    refine S.br (c := q18 = 0) (t := 176) (e := 173) (fun Q kt kf => g_if_eq d_T_drawn_170 rfl kt kf) (fun h19 => ?_) (fun h19 => ?_)
    · refine S.of1 (pc2 := 179) (L2 := [some (.ref 0), none, none, some (.int v3), some (.int v4), some (.int v5), some (.int v6), some (.int v7), some (.int (v8 + (1 : Int32))), some (.int s0)]) (fun Q => g_iinc d_T_drawn_176 rfl (congrArg (fun z => v8 + z) (by decide)) (Nat.le_of_ble_eq_true rfl) rfl) ?_
      refine S.of1 (pc2 := 65) (fun Q => g_goto d_T_drawn_179 rfl) ?_
      exact S.wk (L2 := [some (.ref 0), none, none, some (.int v3), some (.int v4), some (.int v5), some (.int v6), some (.int v7), some (.int (v8 + (1 : Int32))), none]) (And.intro rfl (And.intro rfl (And.intro rfl (And.intro rfl (And.intro rfl (And.intro rfl (And.intro rfl trivial))))))) (hk65 v3 v4 v5 v6 v7 (v8 + (1 : Int32)) σ)
    · exact S.wk (L2 := [some (.ref 0), none, none, some (.int v3), some (.int v4), some (.int v5), some (.int v6), some (.int v7), some (.int v8), none]) (And.intro rfl (And.intro rfl (And.intro rfl (And.intro rfl (And.intro rfl (And.intro rfl (And.intro rfl trivial))))))) (s_T_drawn_j173 d hd k65 hk65 v3 v4 v5 v6 v7 v8 σ)
def f_T_drawn_L65 : Nat → Int32 → Int32 → Int32 → Int32 → Int32 → Int32 → gS → Option (Int32 × gS)
  | 0, _, _, _, _, _, _, _ => none
  | n + 1, v3, v4, v5, v6, v7, v8, σ =>
  if (v4 * v5) ≤ v8 then some (v7, σ) else glt ((v6 * (1103515245 : Int32)) + (12345 : Int32)) fun x11 => if v5 = 0 then none else (f_T_dayBehind (grem v8 v5) σ).bind fun q13 => (f_Cr_gatherAgain 11 (grem (gush x11 (8 : Int32)) (6 : Int32)) q13 σ).bind fun s14 => if (s14.1 1 6) = 0 then f_T_drawn_j148 (fun v3 v4 v5 v6 v7 v8 σ => f_T_drawn_L65 n v3 v4 v5 v6 v7 v8 σ) v3 v4 v5 x11 v7 v8 (0 : Int32) s14 else if (s14.1 1 6) = 0 then none else (f_Cr_happened 11 (grem (gush x11 (16 : Int32)) (s14.1 1 6)) s14).bind fun q21 => f_T_drawn_j148 (fun v3 v4 v5 v6 v7 v8 σ => f_T_drawn_L65 n v3 v4 v5 v6 v7 v8 σ) v3 v4 v5 x11 v7 v8 q21.1 q21.2
theorem s_T_drawn_L65 (d : Nat) (hd : 6 ≤ d) : ∀ (n : Nat) (v3 : Int32) (v4 : Int32) (v5 : Int32) (v6 : Int32) (v7 : Int32) (v8 : Int32) (σ : gS), S wI m_T_drawn d 65 [some (.ref 0), none, none, some (.int v3), some (.int v4), some (.int v5), some (.int v6), some (.int v7), some (.int v8), none] [] σ (f_T_drawn_L65 n v3 v4 v5 v6 v7 v8 σ) := by
  intro n
  induction n with
  | zero =>
    intros
    unfold f_T_drawn_L65
    exact S.no
  | succ n ih =>
    intro v3 v4 v5 v6 v7 v8 σ
    unfold f_T_drawn_L65
    refine S.of1 (pc2 := 67) (fun Q => g_iload d_T_drawn_65 rfl) ?_
    refine S.of1 (pc2 := 69) (fun Q => g_iload d_T_drawn_67 rfl) ?_
    refine S.of1 (pc2 := 71) (fun Q => g_iload d_T_drawn_69 rfl) ?_
    refine S.of1 (pc2 := 72) (fun Q => g_imul d_T_drawn_71) ?_
    refine S.br (c := (v4 * v5) ≤ v8) (t := 182) (e := 75) (fun Q kt kf => g_icmp_ge d_T_drawn_72 rfl kt kf) (fun h10 => ?_) (fun h10 => ?_)
    · refine S.of1 (pc2 := 184) (fun Q => g_iload d_T_drawn_182 rfl) ?_
      exact S.ret (fun Q hq => g_iret rfl d_T_drawn_184 hq)
    · refine S.of1 (pc2 := 77) (fun Q => g_iload d_T_drawn_75 rfl) ?_
      refine S.of1 (pc2 := 79) (fun Q => g_ldc (v := (1103515245 : Int32)) d_T_drawn_77 w_955) ?_
      refine S.of1 (pc2 := 80) (fun Q => g_imul d_T_drawn_79) ?_
      refine S.of1 (pc2 := 83) (fun Q => g_sipush (v := (12345 : Int32)) d_T_drawn_80 (by decide)) ?_
      refine S.of1 (pc2 := 84) (fun Q => g_iadd d_T_drawn_83) ?_
      refine S.of1 (pc2 := 86) (L2 := [some (.ref 0), none, none, some (.int v3), some (.int v4), some (.int v5), some (.int ((v6 * (1103515245 : Int32)) + (12345 : Int32))), some (.int v7), some (.int v8), none]) (fun Q => g_istore d_T_drawn_84 (Nat.le_of_ble_eq_true rfl) rfl) ?_
      refine S.glt (x := ((v6 * (1103515245 : Int32)) + (12345 : Int32))) (Lf := fun y => [some (.ref 0), none, none, some (.int v3), some (.int v4), some (.int v5), some (.int y), some (.int v7), some (.int v8), none]) (fun x11 => ?_)
      refine S.of1 (pc2 := 87) (fun Q => g_aload_n d_T_drawn_86 rfl) ?_
      refine S.of1 (pc2 := 90) (fun Q => g_getr fl_RX10_19 gc_0_1 d_T_drawn_87) ?_
      refine S.of1 (pc2 := 91) (fun Q => g_aload_n d_T_drawn_90 rfl) ?_
      refine S.of1 (pc2 := 94) (fun Q => g_getr fl_RX10_10 gc_0_0 d_T_drawn_91) ?_
      refine S.of1 (pc2 := 96) (fun Q => g_iload d_T_drawn_94 rfl) ?_
      refine S.of1 (pc2 := 98) (fun Q => g_bipush (v := (8 : Int32)) d_T_drawn_96 (by decide)) ?_
      refine S.of1 (pc2 := 99) (fun Q => g_iushr d_T_drawn_98) ?_
      refine S.of1 (pc2 := 101) (fun Q => g_bipush (v := (6 : Int32)) d_T_drawn_99 (by decide)) ?_
      refine S.of1 (pc2 := 102) (fun Q => g_irem d_T_drawn_101 (by decide)) ?_
      refine S.of1 (pc2 := 103) (fun Q => g_aload_n d_T_drawn_102 rfl) ?_
      refine S.of1 (pc2 := 105) (fun Q => g_iload d_T_drawn_103 rfl) ?_
      refine S.of1 (pc2 := 107) (fun Q => g_iload d_T_drawn_105 rfl) ?_
      refine S.nz (fun h12 => ?_)
      refine S.of1 (pc2 := 108) (fun Q => g_irem d_T_drawn_107 h12) ?_
      refine S.call_rI (pc3 := 111) rfl (c_T_dayBehind (d - 1) (by omega) (grem v8 v5) σ) (fun Q => g_callV (M2 := m_T_dayBehind) (vs := [.int (grem v8 v5)]) (st := [.int (grem (gush x11 (8 : Int32)) (6 : Int32)), .ref 1, .ref 11]) lv_RX10_217 gk_0 rfl rfl (Nat.le_of_ble_eq_true rfl) (by omega) (Nat.le_of_ble_eq_true rfl) rfl d_T_drawn_108) (fun q13 => ?_)
      refine S.call_wV (pc3 := 114) rfl (c_Cr_gatherAgain (d - 1) (by omega) 11 gk_11 (grem (gush x11 (8 : Int32)) (6 : Int32)) q13 σ) (fun Q => g_callV (M2 := m_Cr_gatherAgain) (vs := [.ref 1, .int (grem (gush x11 (8 : Int32)) (6 : Int32)), .int q13]) (st := []) lv_RX10_253 gk_11 rfl rfl (Nat.le_of_ble_eq_true rfl) (by omega) (Nat.le_of_ble_eq_true rfl) rfl d_T_drawn_111) (fun s14 => ?_)
      refine S.of1 (pc2 := 115) (fun Q => g_aload_n d_T_drawn_114 rfl) ?_
      refine S.of1 (pc2 := 118) (fun Q => g_getr fl_RX10_10 gc_0_0 d_T_drawn_115) ?_
      refine S.of1 (pc2 := 121) (fun Q => g_geti fl_RX10_126 gc_1_6 d_T_drawn_118) ?_
      refine S.br (c := (s14.1 1 6) = 0) (t := 124) (e := 128) (fun Q kt kf => g_if_ne d_T_drawn_121 rfl kf kt) (fun h15 => ?_) (fun h15 => ?_)
      · refine S.of1 (pc2 := 125) (fun Q => g_iconst (v := (0 : Int32)) d_T_drawn_124 (by decide)) ?_
        refine S.of1 (pc2 := 148) (fun Q => g_goto d_T_drawn_125 rfl) ?_
        exact S.wk (L2 := [some (.ref 0), none, none, some (.int v3), some (.int v4), some (.int v5), some (.int x11), some (.int v7), some (.int v8), none]) (And.intro rfl (And.intro rfl (And.intro rfl (And.intro rfl (And.intro rfl (And.intro rfl (And.intro rfl trivial))))))) (s_T_drawn_j148 d hd (fun v3 v4 v5 v6 v7 v8 σ => f_T_drawn_L65 n v3 v4 v5 v6 v7 v8 σ) (fun v3 v4 v5 v6 v7 v8 τ => ih v3 v4 v5 v6 v7 v8 τ) v3 v4 v5 x11 v7 v8 (0 : Int32) s14)
      · refine S.of1 (pc2 := 129) (fun Q => g_aload_n d_T_drawn_128 rfl) ?_
        refine S.of1 (pc2 := 132) (fun Q => g_getr fl_RX10_19 gc_0_1 d_T_drawn_129) ?_
        refine S.of1 (pc2 := 134) (fun Q => g_iload d_T_drawn_132 rfl) ?_
        refine S.of1 (pc2 := 136) (fun Q => g_bipush (v := (16 : Int32)) d_T_drawn_134 (by decide)) ?_
        refine S.of1 (pc2 := 137) (fun Q => g_iushr d_T_drawn_136) ?_
        refine S.of1 (pc2 := 138) (fun Q => g_aload_n d_T_drawn_137 rfl) ?_
        refine S.of1 (pc2 := 141) (fun Q => g_getr fl_RX10_10 gc_0_0 d_T_drawn_138) ?_
        refine S.of1 (pc2 := 144) (fun Q => g_geti fl_RX10_126 gc_1_6 d_T_drawn_141) ?_
        refine S.nz (fun h20 => ?_)
        refine S.of1 (pc2 := 145) (fun Q => g_irem d_T_drawn_144 h20) ?_
        refine S.call_wI (pc3 := 148) rfl (c_Cr_happened (d - 1) (by omega) 11 gk_11 (grem (gush x11 (16 : Int32)) (s14.1 1 6)) s14) (fun Q => g_callV (M2 := m_Cr_happened) (vs := [.int (grem (gush x11 (16 : Int32)) (s14.1 1 6))]) (st := []) lv_RX10_136 gk_11 rfl rfl (Nat.le_of_ble_eq_true rfl) (by omega) (Nat.le_of_ble_eq_true rfl) rfl d_T_drawn_145) (fun q21 => ?_)
        exact S.wk (L2 := [some (.ref 0), none, none, some (.int v3), some (.int v4), some (.int v5), some (.int x11), some (.int v7), some (.int v8), none]) (And.intro rfl (And.intro rfl (And.intro rfl (And.intro rfl (And.intro rfl (And.intro rfl (And.intro rfl trivial))))))) (s_T_drawn_j148 d hd (fun v3 v4 v5 v6 v7 v8 σ => f_T_drawn_L65 n v3 v4 v5 v6 v7 v8 σ) (fun v3 v4 v5 v6 v7 v8 τ => ih v3 v4 v5 v6 v7 v8 τ) v3 v4 v5 x11 v7 v8 q21.1 q21.2)
def f_T_drawn (v1 : Int32) (v2 : Int32) (v3 : Int32) (σ : gS) : Option (Int32 × gS) :=
  glt (v2 / (100 : Int32)) fun x1 => glt (grem v2 (100 : Int32)) fun x2 => if x1 < (1 : Int32) then some ((-1 : Int32), σ) else if (30 : Int32) < x1 then some ((-1 : Int32), σ) else if x2 < (1 : Int32) then some ((-1 : Int32), σ) else if (40 : Int32) < x2 then some ((-1 : Int32), σ) else (f_T_within v3 (7 : Int32)).bind fun q7 => if q7 = 0 then some ((-1 : Int32), σ) else (f_Cr_forget 11 σ).bind fun s9 => f_T_drawn_L65 gfu v3 x1 x2 v1 (0 : Int32) (0 : Int32) s9
theorem c_T_drawn (d : Nat) (hd : 6 ≤ d) (v1 : Int32) (v2 : Int32) (v3 : Int32) (σ : gS) : C wI d m_T_drawn [.ref 0, .int v1, .int v2, .int v3] σ (f_T_drawn v1 v2 v3 σ) := by
  unfold f_T_drawn
  refine C.of (by decide +kernel) (Nat.le_of_ble_eq_true rfl) (L := [some (.ref 0), some (.int v1), some (.int v2), some (.int v3), none, none, none, none, none, none]) rfl ?_
  refine S.of1 (pc2 := 1) (fun Q => g_iload_n d_T_drawn_0 rfl) ?_
  refine S.of1 (pc2 := 3) (fun Q => g_bipush (v := (100 : Int32)) d_T_drawn_1 (by decide)) ?_
  refine S.of1 (pc2 := 4) (fun Q => g_idiv d_T_drawn_3 (by decide)) ?_
  refine S.of1 (pc2 := 6) (L2 := [some (.ref 0), some (.int v1), some (.int v2), some (.int v3), some (.int (v2 / (100 : Int32))), none, none, none, none, none]) (fun Q => g_istore d_T_drawn_4 (Nat.le_of_ble_eq_true rfl) rfl) ?_
  refine S.glt (x := (v2 / (100 : Int32))) (Lf := fun y => [some (.ref 0), some (.int v1), some (.int v2), some (.int v3), some (.int y), none, none, none, none, none]) (fun x1 => ?_)
  refine S.of1 (pc2 := 7) (fun Q => g_iload_n d_T_drawn_6 rfl) ?_
  refine S.of1 (pc2 := 9) (fun Q => g_bipush (v := (100 : Int32)) d_T_drawn_7 (by decide)) ?_
  refine S.of1 (pc2 := 10) (fun Q => g_irem d_T_drawn_9 (by decide)) ?_
  refine S.of1 (pc2 := 12) (L2 := [some (.ref 0), some (.int v1), some (.int v2), some (.int v3), some (.int x1), some (.int (grem v2 (100 : Int32))), none, none, none, none]) (fun Q => g_istore d_T_drawn_10 (Nat.le_of_ble_eq_true rfl) rfl) ?_
  refine S.glt (x := (grem v2 (100 : Int32))) (Lf := fun y => [some (.ref 0), some (.int v1), some (.int v2), some (.int v3), some (.int x1), some (.int y), none, none, none, none]) (fun x2 => ?_)
  refine S.of1 (pc2 := 14) (fun Q => g_iload d_T_drawn_12 rfl) ?_
  refine S.of1 (pc2 := 15) (fun Q => g_iconst (v := (1 : Int32)) d_T_drawn_14 (by decide)) ?_
  refine S.br (c := x1 < (1 : Int32)) (t := 47) (e := 18) (fun Q kt kf => g_icmp_lt d_T_drawn_15 rfl kt kf) (fun h3 => ?_) (fun h3 => ?_)
  · refine S.of1 (pc2 := 48) (fun Q => g_iconst (v := (-1 : Int32)) d_T_drawn_47 (by decide)) ?_
    exact S.ret (fun Q hq => g_iret rfl d_T_drawn_48 hq)
  · refine S.of1 (pc2 := 20) (fun Q => g_iload d_T_drawn_18 rfl) ?_
    refine S.of1 (pc2 := 22) (fun Q => g_bipush (v := (30 : Int32)) d_T_drawn_20 (by decide)) ?_
    refine S.br (c := (30 : Int32) < x1) (t := 47) (e := 25) (fun Q kt kf => g_icmp_gt d_T_drawn_22 rfl kt kf) (fun h4 => ?_) (fun h4 => ?_)
    · refine S.of1 (pc2 := 48) (fun Q => g_iconst (v := (-1 : Int32)) d_T_drawn_47 (by decide)) ?_
      exact S.ret (fun Q hq => g_iret rfl d_T_drawn_48 hq)
    · refine S.of1 (pc2 := 27) (fun Q => g_iload d_T_drawn_25 rfl) ?_
      refine S.of1 (pc2 := 28) (fun Q => g_iconst (v := (1 : Int32)) d_T_drawn_27 (by decide)) ?_
      refine S.br (c := x2 < (1 : Int32)) (t := 47) (e := 31) (fun Q kt kf => g_icmp_lt d_T_drawn_28 rfl kt kf) (fun h5 => ?_) (fun h5 => ?_)
      · refine S.of1 (pc2 := 48) (fun Q => g_iconst (v := (-1 : Int32)) d_T_drawn_47 (by decide)) ?_
        exact S.ret (fun Q hq => g_iret rfl d_T_drawn_48 hq)
      · refine S.of1 (pc2 := 33) (fun Q => g_iload d_T_drawn_31 rfl) ?_
        refine S.of1 (pc2 := 35) (fun Q => g_bipush (v := (40 : Int32)) d_T_drawn_33 (by decide)) ?_
        refine S.br (c := (40 : Int32) < x2) (t := 47) (e := 38) (fun Q kt kf => g_icmp_gt d_T_drawn_35 rfl kt kf) (fun h6 => ?_) (fun h6 => ?_)
        · refine S.of1 (pc2 := 48) (fun Q => g_iconst (v := (-1 : Int32)) d_T_drawn_47 (by decide)) ?_
          exact S.ret (fun Q hq => g_iret rfl d_T_drawn_48 hq)
        · refine S.of1 (pc2 := 39) (fun Q => g_iload_n d_T_drawn_38 rfl) ?_
          refine S.of1 (pc2 := 41) (fun Q => g_bipush (v := (7 : Int32)) d_T_drawn_39 (by decide)) ?_
          refine S.call_rI (pc3 := 44) rfl (c_T_within (d - 1) (by omega) v3 (7 : Int32) σ) (fun Q => g_callS (M2 := m_T_within) (vs := [.int v3, .int (7 : Int32)]) (st := []) ls_RX10_72 rfl (Nat.le_of_ble_eq_true rfl) (by omega) (Nat.le_of_ble_eq_true rfl) rfl d_T_drawn_41) (fun q7 => ?_)
          refine S.br (c := q7 = 0) (t := 47) (e := 49) (fun Q kt kf => g_if_ne d_T_drawn_44 rfl kf kt) (fun h8 => ?_) (fun h8 => ?_)
          · refine S.of1 (pc2 := 48) (fun Q => g_iconst (v := (-1 : Int32)) d_T_drawn_47 (by decide)) ?_
            exact S.ret (fun Q hq => g_iret rfl d_T_drawn_48 hq)
          · refine S.of1 (pc2 := 50) (fun Q => g_aload_n d_T_drawn_49 rfl) ?_
            refine S.of1 (pc2 := 53) (fun Q => g_getr fl_RX10_19 gc_0_1 d_T_drawn_50) ?_
            refine S.call_wV (pc3 := 56) rfl (c_Cr_forget (d - 1) (by omega) 11 gk_11 σ) (fun Q => g_callV (M2 := m_Cr_forget) (vs := []) (st := []) lv_RX10_249 gk_11 rfl rfl (Nat.le_of_ble_eq_true rfl) (by omega) (Nat.le_of_ble_eq_true rfl) rfl d_T_drawn_53) (fun s9 => ?_)
            refine S.of1 (pc2 := 57) (fun Q => g_iload_n d_T_drawn_56 rfl) ?_
            refine S.of1 (pc2 := 59) (L2 := [some (.ref 0), some (.int v1), some (.int v2), some (.int v3), some (.int x1), some (.int x2), some (.int v1), none, none, none]) (fun Q => g_istore d_T_drawn_57 (Nat.le_of_ble_eq_true rfl) rfl) ?_
            refine S.of1 (pc2 := 60) (fun Q => g_iconst (v := (0 : Int32)) d_T_drawn_59 (by decide)) ?_
            refine S.of1 (pc2 := 62) (L2 := [some (.ref 0), some (.int v1), some (.int v2), some (.int v3), some (.int x1), some (.int x2), some (.int v1), some (.int (0 : Int32)), none, none]) (fun Q => g_istore d_T_drawn_60 (Nat.le_of_ble_eq_true rfl) rfl) ?_
            refine S.of1 (pc2 := 63) (fun Q => g_iconst (v := (0 : Int32)) d_T_drawn_62 (by decide)) ?_
            refine S.of1 (pc2 := 65) (L2 := [some (.ref 0), some (.int v1), some (.int v2), some (.int v3), some (.int x1), some (.int x2), some (.int v1), some (.int (0 : Int32)), some (.int (0 : Int32)), none]) (fun Q => g_istore d_T_drawn_63 (Nat.le_of_ble_eq_true rfl) rfl) ?_
            exact S.wk (L2 := [some (.ref 0), none, none, some (.int v3), some (.int x1), some (.int x2), some (.int v1), some (.int (0 : Int32)), some (.int (0 : Int32)), none]) (And.intro rfl (And.intro rfl (And.intro rfl (And.intro rfl (And.intro rfl (And.intro rfl (And.intro rfl trivial))))))) (s_T_drawn_L65 d hd gfu v3 x1 x2 v1 (0 : Int32) (0 : Int32) s9)
def f_Le_enter (c : Nat) (v1 : Int32) (v2 : Int32) (σ : gS) : Option (Int32 × gS) :=
  glt (v2 &&& ((σ.1 c 2) ^^^ (-1 : Int32))) fun x1 => gup (gpi σ c 1 ((σ.1 c 1) ||| ((1 : Int32) <<< (v1 &&& 31)))) fun s2 => gup (gpi s2 c 2 ((s2.1 c 2) ||| x1)) fun s3 => gup (gpi s3 (c + 1) 0 ((s3.1 (c + 1) 0) + (1 : Int32))) fun s4 => (f_JI_bitCount x1).bind fun q5 => gup (gpi s4 (c + 1) 1 ((s4.1 (c + 1) 1) + q5)) fun s6 => some (x1, s6)
theorem c_Le_enter (d : Nat) (hd : 2 ≤ d) (c : Nat) (hc : gcls c = some 5) (v1 : Int32) (v2 : Int32) (σ : gS) : C wI d m_Le_enter [.ref c, .int v1, .int v2] σ (f_Le_enter c v1 v2 σ) := by
  unfold f_Le_enter
  refine C.of (by decide +kernel) (Nat.le_of_ble_eq_true rfl) (L := [some (.ref c), some (.int v1), some (.int v2), none]) rfl ?_
  refine S.of1 (pc2 := 1) (fun Q => g_iload_n d_Le_enter_0 rfl) ?_
  refine S.of1 (pc2 := 2) (fun Q => g_aload_n d_Le_enter_1 rfl) ?_
  refine S.of1 (pc2 := 5) (fun Q => g_geti fl_RX5_19 (gq_5_2 hc) d_Le_enter_2) ?_
  refine S.of1 (pc2 := 6) (fun Q => g_iconst (v := (-1 : Int32)) d_Le_enter_5 (by decide)) ?_
  refine S.of1 (pc2 := 7) (fun Q => g_ixor d_Le_enter_6) ?_
  refine S.of1 (pc2 := 8) (fun Q => g_iand d_Le_enter_7) ?_
  refine S.of1 (pc2 := 9) (L2 := [some (.ref c), some (.int v1), some (.int v2), some (.int (v2 &&& ((σ.1 c 2) ^^^ (-1 : Int32))))]) (fun Q => g_istore_n d_Le_enter_8 (Nat.le_of_ble_eq_true rfl) rfl) ?_
  refine S.glt (x := (v2 &&& ((σ.1 c 2) ^^^ (-1 : Int32)))) (Lf := fun y => [some (.ref c), some (.int v1), some (.int v2), some (.int y)]) (fun x1 => ?_)
  refine S.of1 (pc2 := 10) (fun Q => g_aload_n d_Le_enter_9 rfl) ?_
  refine S.of1 (pc2 := 11) (fun Q => g_dup d_Le_enter_10 rfl) ?_
  refine S.of1 (pc2 := 14) (fun Q => g_geti fl_RX5_23 (gq_5_1 hc) d_Le_enter_11) ?_
  refine S.of1 (pc2 := 15) (fun Q => g_iconst (v := (1 : Int32)) d_Le_enter_14 (by decide)) ?_
  refine S.of1 (pc2 := 16) (fun Q => g_iload_n d_Le_enter_15 rfl) ?_
  refine S.of1 (pc2 := 17) (fun Q => g_ishl d_Le_enter_16) ?_
  refine S.of1 (pc2 := 18) (fun Q => g_ior d_Le_enter_17) ?_
  refine S.of1 (pc2 := 21) (fun Q => g_puti fl_RX5_23 (gq_5_1 hc) rfl rfl d_Le_enter_18) ?_
  refine S.gup (fun s2 => ?_)
  refine S.of1 (pc2 := 22) (fun Q => g_aload_n d_Le_enter_21 rfl) ?_
  refine S.of1 (pc2 := 23) (fun Q => g_dup d_Le_enter_22 rfl) ?_
  refine S.of1 (pc2 := 26) (fun Q => g_geti fl_RX5_19 (gq_5_2 hc) d_Le_enter_23) ?_
  refine S.of1 (pc2 := 27) (fun Q => g_iload_n d_Le_enter_26 rfl) ?_
  refine S.of1 (pc2 := 28) (fun Q => g_ior d_Le_enter_27) ?_
  refine S.of1 (pc2 := 31) (fun Q => g_puti fl_RX5_19 (gq_5_2 hc) rfl rfl d_Le_enter_28) ?_
  refine S.gup (fun s3 => ?_)
  refine S.of1 (pc2 := 32) (fun Q => g_aload_n d_Le_enter_31 rfl) ?_
  refine S.of1 (pc2 := 35) (fun Q => g_getr fl_RX5_9 (gq_5_0 hc) d_Le_enter_32) ?_
  refine S.of1 (pc2 := 36) (fun Q => g_iconst (v := (0 : Int32)) d_Le_enter_35 (by decide)) ?_
  refine S.of1 (pc2 := 37) (fun Q => g_dup2 d_Le_enter_36 rfl rfl) ?_
  refine S.of1 (pc2 := 38) (fun Q => g_iald (gp_5_0 hc) (vp_lit rfl) d_Le_enter_37) ?_
  refine S.of1 (pc2 := 39) (fun Q => g_iconst (v := (1 : Int32)) d_Le_enter_38 (by decide)) ?_
  refine S.of1 (pc2 := 40) (fun Q => g_iadd d_Le_enter_39) ?_
  refine S.of1 (pc2 := 41) (fun Q => g_iast (gp_5_0 hc) (vp_lit rfl) d_Le_enter_40) ?_
  refine S.gup (fun s4 => ?_)
  refine S.of1 (pc2 := 42) (fun Q => g_aload_n d_Le_enter_41 rfl) ?_
  refine S.of1 (pc2 := 45) (fun Q => g_getr fl_RX5_9 (gq_5_0 hc) d_Le_enter_42) ?_
  refine S.of1 (pc2 := 46) (fun Q => g_iconst (v := (1 : Int32)) d_Le_enter_45 (by decide)) ?_
  refine S.of1 (pc2 := 47) (fun Q => g_dup2 d_Le_enter_46 rfl rfl) ?_
  refine S.of1 (pc2 := 48) (fun Q => g_iald (gp_5_0 hc) (vp_lit rfl) d_Le_enter_47) ?_
  refine S.of1 (pc2 := 49) (fun Q => g_iload_n d_Le_enter_48 rfl) ?_
  refine S.call_rI (pc3 := 52) rfl (c_JI_bitCount (d - 1) (by omega) x1 s4) (fun Q => g_callS (M2 := m_JI_bitCount) (vs := [.int x1]) (st := [.int (s4.1 (c + 1) 1), .int (1 : Int32), .ref (c + 1)]) ls_RX5_26 rfl (Nat.le_of_ble_eq_true rfl) (by omega) (Nat.le_of_ble_eq_true rfl) rfl d_Le_enter_49) (fun q5 => ?_)
  refine S.of1 (pc2 := 53) (fun Q => g_iadd d_Le_enter_52) ?_
  refine S.of1 (pc2 := 54) (fun Q => g_iast (gp_5_0 hc) (vp_lit rfl) d_Le_enter_53) ?_
  refine S.gup (fun s6 => ?_)
  refine S.of1 (pc2 := 55) (fun Q => g_iload_n d_Le_enter_54 rfl) ?_
  exact S.ret (fun Q hq => g_iret rfl d_Le_enter_55 hq)
def f_T_claim (v1 : Int32) (σ : gS) : Option (Int32 × gS) :=
  (f_T_within v1 (σ.1 1 6)).bind fun q1 => if q1 = 0 then some ((-1 : Int32), σ) else (f_T_has (σ.1 36 1) v1).bind fun q3 => if q3 = 0 then (f_Cr_gatherNow 11 σ).bind fun s5 => (f_Cr_metBy 11 v1 (s5.1 36 1) s5).bind fun q6 => (f_Le_enter 36 v1 q6 s5).bind fun q7 => some (q7.1, q7.2) else some ((-5 : Int32), σ)
theorem c_T_claim (d : Nat) (hd : 6 ≤ d) (v1 : Int32) (σ : gS) : C wI d m_T_claim [.ref 0, .int v1] σ (f_T_claim v1 σ) := by
  unfold f_T_claim
  refine C.of (by decide +kernel) (Nat.le_of_ble_eq_true rfl) (L := [some (.ref 0), some (.int v1)]) rfl ?_
  refine S.of1 (pc2 := 1) (fun Q => g_iload_n d_T_claim_0 rfl) ?_
  refine S.of1 (pc2 := 2) (fun Q => g_aload_n d_T_claim_1 rfl) ?_
  refine S.of1 (pc2 := 5) (fun Q => g_getr fl_RX10_10 gc_0_0 d_T_claim_2) ?_
  refine S.of1 (pc2 := 8) (fun Q => g_geti fl_RX10_126 gc_1_6 d_T_claim_5) ?_
  refine S.call_rI (pc3 := 11) rfl (c_T_within (d - 1) (by omega) v1 (σ.1 1 6) σ) (fun Q => g_callS (M2 := m_T_within) (vs := [.int v1, .int (σ.1 1 6)]) (st := []) ls_RX10_72 rfl (Nat.le_of_ble_eq_true rfl) (by omega) (Nat.le_of_ble_eq_true rfl) rfl d_T_claim_8) (fun q1 => ?_)
  refine S.br (c := q1 = 0) (t := 14) (e := 16) (fun Q kt kf => g_if_ne d_T_claim_11 rfl kf kt) (fun h2 => ?_) (fun h2 => ?_)
  · refine S.of1 (pc2 := 15) (fun Q => g_iconst (v := (-1 : Int32)) d_T_claim_14 (by decide)) ?_
    exact S.ret (fun Q hq => g_iret rfl d_T_claim_15 hq)
  · refine S.of1 (pc2 := 17) (fun Q => g_aload_n d_T_claim_16 rfl) ?_
    refine S.of1 (pc2 := 20) (fun Q => g_getr fl_RX10_47 gc_0_5 d_T_claim_17) ?_
    refine S.of1 (pc2 := 23) (fun Q => g_geti fl_RX10_256 gc_36_1 d_T_claim_20) ?_
    refine S.of1 (pc2 := 24) (fun Q => g_iload_n d_T_claim_23 rfl) ?_
    refine S.call_rI (pc3 := 27) rfl (c_T_has (d - 1) (by omega) (σ.1 36 1) v1 σ) (fun Q => g_callS (M2 := m_T_has) (vs := [.int (σ.1 36 1), .int v1]) (st := []) ls_RX10_160 rfl (Nat.le_of_ble_eq_true rfl) (by omega) (Nat.le_of_ble_eq_true rfl) rfl d_T_claim_24) (fun q3 => ?_)
    refine S.br (c := q3 = 0) (t := 33) (e := 30) (fun Q kt kf => g_if_eq d_T_claim_27 rfl kt kf) (fun h4 => ?_) (fun h4 => ?_)
    · refine S.of1 (pc2 := 34) (fun Q => g_aload_n d_T_claim_33 rfl) ?_
      refine S.of1 (pc2 := 37) (fun Q => g_getr fl_RX10_19 gc_0_1 d_T_claim_34) ?_
      refine S.of1 (pc2 := 38) (fun Q => g_aload_n d_T_claim_37 rfl) ?_
      refine S.of1 (pc2 := 41) (fun Q => g_getr fl_RX10_10 gc_0_0 d_T_claim_38) ?_
      refine S.call_wV (pc3 := 44) rfl (c_Cr_gatherNow (d - 1) (by omega) 11 gk_11 σ) (fun Q => g_callV (M2 := m_Cr_gatherNow) (vs := [.ref 1]) (st := []) lv_RX10_132 gk_11 rfl rfl (Nat.le_of_ble_eq_true rfl) (by omega) (Nat.le_of_ble_eq_true rfl) rfl d_T_claim_41) (fun s5 => ?_)
      refine S.of1 (pc2 := 45) (fun Q => g_aload_n d_T_claim_44 rfl) ?_
      refine S.of1 (pc2 := 48) (fun Q => g_getr fl_RX10_47 gc_0_5 d_T_claim_45) ?_
      refine S.of1 (pc2 := 49) (fun Q => g_iload_n d_T_claim_48 rfl) ?_
      refine S.of1 (pc2 := 50) (fun Q => g_aload_n d_T_claim_49 rfl) ?_
      refine S.of1 (pc2 := 53) (fun Q => g_getr fl_RX10_19 gc_0_1 d_T_claim_50) ?_
      refine S.of1 (pc2 := 54) (fun Q => g_iload_n d_T_claim_53 rfl) ?_
      refine S.of1 (pc2 := 55) (fun Q => g_aload_n d_T_claim_54 rfl) ?_
      refine S.of1 (pc2 := 58) (fun Q => g_getr fl_RX10_47 gc_0_5 d_T_claim_55) ?_
      refine S.of1 (pc2 := 61) (fun Q => g_geti fl_RX10_256 gc_36_1 d_T_claim_58) ?_
      refine S.call_rI (pc3 := 64) rfl (c_Cr_metBy (d - 1) (by omega) 11 gk_11 v1 (s5.1 36 1) s5) (fun Q => g_callV (M2 := m_Cr_metBy) (vs := [.int v1, .int (s5.1 36 1)]) (st := [.int v1, .ref 36]) lv_RX10_152 gk_11 rfl rfl (Nat.le_of_ble_eq_true rfl) (by omega) (Nat.le_of_ble_eq_true rfl) rfl d_T_claim_61) (fun q6 => ?_)
      refine S.call_wI (pc3 := 67) rfl (c_Le_enter (d - 1) (by omega) 36 gk_36 v1 q6 s5) (fun Q => g_callV (M2 := m_Le_enter) (vs := [.int v1, .int q6]) (st := []) lv_RX10_259 gk_36 rfl rfl (Nat.le_of_ble_eq_true rfl) (by omega) (Nat.le_of_ble_eq_true rfl) rfl d_T_claim_64) (fun q7 => ?_)
      exact S.ret (fun Q hq => g_iret rfl d_T_claim_67 hq)
    · refine S.of1 (pc2 := 32) (fun Q => g_bipush (v := (-5 : Int32)) d_T_claim_30 (by decide)) ?_
      exact S.ret (fun Q hq => g_iret rfl d_T_claim_32 hq)
def f_Le_endDay (c : Nat) (σ : gS) : Option gS :=
  gup (gpi σ c 1 (0 : Int32)) fun s1 => gup (gpi s1 c 2 (0 : Int32)) fun s2 => gup (gpi s2 (c + 1) 4 ((s2.1 (c + 1) 4) + (1 : Int32))) fun s3 => some s3
theorem c_Le_endDay (d : Nat) (hd : 1 ≤ d) (c : Nat) (hc : gcls c = some 5) (σ : gS) : C wV d m_Le_endDay [.ref c] σ (f_Le_endDay c σ) := by
  unfold f_Le_endDay
  refine C.of (by decide +kernel) (Nat.le_of_ble_eq_true rfl) (L := [some (.ref c)]) rfl ?_
  refine S.of1 (pc2 := 1) (fun Q => g_aload_n d_Le_endDay_0 rfl) ?_
  refine S.of1 (pc2 := 2) (fun Q => g_iconst (v := (0 : Int32)) d_Le_endDay_1 (by decide)) ?_
  refine S.of1 (pc2 := 5) (fun Q => g_puti fl_RX5_23 (gq_5_1 hc) rfl rfl d_Le_endDay_2) ?_
  refine S.gup (fun s1 => ?_)
  refine S.of1 (pc2 := 6) (fun Q => g_aload_n d_Le_endDay_5 rfl) ?_
  refine S.of1 (pc2 := 7) (fun Q => g_iconst (v := (0 : Int32)) d_Le_endDay_6 (by decide)) ?_
  refine S.of1 (pc2 := 10) (fun Q => g_puti fl_RX5_19 (gq_5_2 hc) rfl rfl d_Le_endDay_7) ?_
  refine S.gup (fun s2 => ?_)
  refine S.of1 (pc2 := 11) (fun Q => g_aload_n d_Le_endDay_10 rfl) ?_
  refine S.of1 (pc2 := 14) (fun Q => g_getr fl_RX5_9 (gq_5_0 hc) d_Le_endDay_11) ?_
  refine S.of1 (pc2 := 15) (fun Q => g_iconst (v := (4 : Int32)) d_Le_endDay_14 (by decide)) ?_
  refine S.of1 (pc2 := 16) (fun Q => g_dup2 d_Le_endDay_15 rfl rfl) ?_
  refine S.of1 (pc2 := 17) (fun Q => g_iald (gp_5_0 hc) (vp_lit rfl) d_Le_endDay_16) ?_
  refine S.of1 (pc2 := 18) (fun Q => g_iconst (v := (1 : Int32)) d_Le_endDay_17 (by decide)) ?_
  refine S.of1 (pc2 := 19) (fun Q => g_iadd d_Le_endDay_18) ?_
  refine S.of1 (pc2 := 20) (fun Q => g_iast (gp_5_0 hc) (vp_lit rfl) d_Le_endDay_19) ?_
  refine S.gup (fun s3 => ?_)
  exact S.ret (fun Q hq => g_vret rfl d_Le_endDay_20 hq)
def f_T_ends (σ : gS) : Option (Int32 × gS) :=
  (f_T_dayBehind (1 : Int32) σ).bind fun q1 => gup (gpi σ 1 9 q1) fun s2 => (f_Le_endDay 36 s2).bind fun s3 => some ((s3.1 1 9), s3)
theorem c_T_ends (d : Nat) (hd : 3 ≤ d) (σ : gS) : C wI d m_T_ends [.ref 0] σ (f_T_ends σ) := by
  unfold f_T_ends
  refine C.of (by decide +kernel) (Nat.le_of_ble_eq_true rfl) (L := [some (.ref 0)]) rfl ?_
  refine S.of1 (pc2 := 1) (fun Q => g_aload_n d_T_ends_0 rfl) ?_
  refine S.of1 (pc2 := 4) (fun Q => g_getr fl_RX10_10 gc_0_0 d_T_ends_1) ?_
  refine S.of1 (pc2 := 5) (fun Q => g_aload_n d_T_ends_4 rfl) ?_
  refine S.of1 (pc2 := 6) (fun Q => g_iconst (v := (1 : Int32)) d_T_ends_5 (by decide)) ?_
  refine S.call_rI (pc3 := 9) rfl (c_T_dayBehind (d - 1) (by omega) (1 : Int32) σ) (fun Q => g_callV (M2 := m_T_dayBehind) (vs := [.int (1 : Int32)]) (st := [.ref 1]) lv_RX10_217 gk_0 rfl rfl (Nat.le_of_ble_eq_true rfl) (by omega) (Nat.le_of_ble_eq_true rfl) rfl d_T_ends_6) (fun q1 => ?_)
  refine S.of1 (pc2 := 12) (fun Q => g_puti fl_RX10_262 gc_1_9 rfl rfl d_T_ends_9) ?_
  refine S.gup (fun s2 => ?_)
  refine S.of1 (pc2 := 13) (fun Q => g_aload_n d_T_ends_12 rfl) ?_
  refine S.of1 (pc2 := 16) (fun Q => g_getr fl_RX10_47 gc_0_5 d_T_ends_13) ?_
  refine S.call_wV (pc3 := 19) rfl (c_Le_endDay (d - 1) (by omega) 36 gk_36 s2) (fun Q => g_callV (M2 := m_Le_endDay) (vs := []) (st := []) lv_RX10_265 gk_36 rfl rfl (Nat.le_of_ble_eq_true rfl) (by omega) (Nat.le_of_ble_eq_true rfl) rfl d_T_ends_16) (fun s3 => ?_)
  refine S.of1 (pc2 := 20) (fun Q => g_aload_n d_T_ends_19 rfl) ?_
  refine S.of1 (pc2 := 23) (fun Q => g_getr fl_RX10_10 gc_0_0 d_T_ends_20) ?_
  refine S.of1 (pc2 := 26) (fun Q => g_geti fl_RX10_262 gc_1_9 d_T_ends_23) ?_
  exact S.ret (fun Q hq => g_iret rfl d_T_ends_26 hq)
def f_Isl_join_j50 (k5 : Int32 → Int32 → Int32 → Int32 → gS → Option (Int32 × gS)) (v1 : Int32) (v2 : Int32) (v4 : Int32) (s0 : Int32) (s1 : Int32) (σ : gS) : Option (Int32 × gS) :=
  k5 v1 v2 (s1 + s0) (v4 + (1 : Int32)) σ
theorem s_Isl_join_j50 (d : Nat) (hd : 1 ≤ d) (k5 : Int32 → Int32 → Int32 → Int32 → gS → Option (Int32 × gS)) (hk5 : ∀ (v1 : Int32) (v2 : Int32) (v3 : Int32) (v4 : Int32) (τ : gS), S wI m_Isl_join d 5 [some (.ref 1), some (.int v1), some (.int v2), some (.int v3), some (.int v4)] [] τ (k5 v1 v2 v3 v4 τ)) (v1 : Int32) (v2 : Int32) (v4 : Int32) (s0 : Int32) (s1 : Int32) (σ : gS) : S wI m_Isl_join d 50 [some (.ref 1), some (.int v1), some (.int v2), none, some (.int v4)] [.int s0, .int s1] σ (f_Isl_join_j50 k5 v1 v2 v4 s0 s1 σ) := by
  unfold f_Isl_join_j50
  refine S.of1 (pc2 := 51) (fun Q => g_iadd d_Isl_join_50) ?_
  refine S.of1 (pc2 := 52) (L2 := [some (.ref 1), some (.int v1), some (.int v2), some (.int (s1 + s0)), some (.int v4)]) (fun Q => g_istore_n d_Isl_join_51 (Nat.le_of_ble_eq_true rfl) rfl) ?_
  refine S.of1 (pc2 := 55) (L2 := [some (.ref 1), some (.int v1), some (.int v2), some (.int (s1 + s0)), some (.int (v4 + (1 : Int32)))]) (fun Q => g_iinc d_Isl_join_52 rfl (congrArg (fun z => v4 + z) (by decide)) (Nat.le_of_ble_eq_true rfl) rfl) ?_
  refine S.of1 (pc2 := 5) (fun Q => g_goto d_Isl_join_55 rfl) ?_
  exact S.wk (L2 := [some (.ref 1), some (.int v1), some (.int v2), some (.int (s1 + s0)), some (.int (v4 + (1 : Int32)))]) (And.intro rfl (And.intro rfl (And.intro rfl (And.intro rfl (And.intro rfl trivial))))) (hk5 v1 v2 (s1 + s0) (v4 + (1 : Int32)) σ)
def f_Isl_join_j33 (k5 : Int32 → Int32 → Int32 → Int32 → gS → Option (Int32 × gS)) (v1 : Int32) (v2 : Int32) (v3 : Int32) (v4 : Int32) (σ : gS) : Option (Int32 × gS) :=
  if gix v4 10 then if (σ.1 2 v4.toNatClampNeg) = v1 then f_Isl_join_j50 k5 v1 v2 v4 (1 : Int32) v3 σ else f_Isl_join_j50 k5 v1 v2 v4 (0 : Int32) v3 σ else none
theorem s_Isl_join_j33 (d : Nat) (hd : 1 ≤ d) (k5 : Int32 → Int32 → Int32 → Int32 → gS → Option (Int32 × gS)) (hk5 : ∀ (v1 : Int32) (v2 : Int32) (v3 : Int32) (v4 : Int32) (τ : gS), S wI m_Isl_join d 5 [some (.ref 1), some (.int v1), some (.int v2), some (.int v3), some (.int v4)] [] τ (k5 v1 v2 v3 v4 τ)) (v1 : Int32) (v2 : Int32) (v3 : Int32) (v4 : Int32) (σ : gS) : S wI m_Isl_join d 33 [some (.ref 1), some (.int v1), some (.int v2), some (.int v3), some (.int v4)] [] σ (f_Isl_join_j33 k5 v1 v2 v3 v4 σ) := by
  unfold f_Isl_join_j33
  refine S.of1 (pc2 := 34) (fun Q => g_iload_n d_Isl_join_33 rfl) ?_
  refine S.of1 (pc2 := 35) (fun Q => g_aload_n d_Isl_join_34 rfl) ?_
  refine S.of1 (pc2 := 38) (fun Q => g_getr fl_RX3_9 gc_1_0 d_Isl_join_35) ?_
  refine S.of1 (pc2 := 40) (fun Q => g_iload d_Isl_join_38 rfl) ?_
  refine S.chk (fun h6 => ?_)
  refine S.of1 (pc2 := 41) (fun Q => g_iald ga_2 (gix_in h6) d_Isl_join_40) ?_
  refine S.of1 (pc2 := 42) (fun Q => g_iload_n d_Isl_join_41 rfl) ?_
  refine S.br (c := (σ.1 2 v4.toNatClampNeg) = v1) (t := 45) (e := 49) (fun Q kt kf => g_icmp_ne d_Isl_join_42 rfl kf kt) (fun h7 => ?_) (fun h7 => ?_)
  · refine S.of1 (pc2 := 46) (fun Q => g_iconst (v := (1 : Int32)) d_Isl_join_45 (by decide)) ?_
    refine S.of1 (pc2 := 50) (fun Q => g_goto d_Isl_join_46 rfl) ?_
    exact S.wk (L2 := [some (.ref 1), some (.int v1), some (.int v2), none, some (.int v4)]) (And.intro rfl (And.intro rfl (And.intro rfl (And.intro rfl trivial)))) (s_Isl_join_j50 d hd k5 hk5 v1 v2 v4 (1 : Int32) v3 σ)
  · refine S.of1 (pc2 := 50) (fun Q => g_iconst (v := (0 : Int32)) d_Isl_join_49 (by decide)) ?_
    exact S.wk (L2 := [some (.ref 1), some (.int v1), some (.int v2), none, some (.int v4)]) (And.intro rfl (And.intro rfl (And.intro rfl (And.intro rfl trivial)))) (s_Isl_join_j50 d hd k5 hk5 v1 v2 v4 (0 : Int32) v3 σ)
def f_Isl_join_L5 : Nat → Int32 → Int32 → Int32 → Int32 → gS → Option (Int32 × gS)
  | 0, _, _, _, _, _ => none
  | n + 1, v1, v2, v3, v4, σ =>
  if (σ.1 1 6) ≤ v4 then some (v3, σ) else if gix v4 10 then if (σ.1 2 v4.toNatClampNeg) = v2 then if gix v4 10 then gup (gpi σ 2 v4.toNatClampNeg v1) fun s5 => f_Isl_join_j33 (fun v1 v2 v3 v4 σ => f_Isl_join_L5 n v1 v2 v3 v4 σ) v1 v2 v3 v4 s5 else none else f_Isl_join_j33 (fun v1 v2 v3 v4 σ => f_Isl_join_L5 n v1 v2 v3 v4 σ) v1 v2 v3 v4 σ else none
theorem s_Isl_join_L5 (d : Nat) (hd : 1 ≤ d) : ∀ (n : Nat) (v1 : Int32) (v2 : Int32) (v3 : Int32) (v4 : Int32) (σ : gS), S wI m_Isl_join d 5 [some (.ref 1), some (.int v1), some (.int v2), some (.int v3), some (.int v4)] [] σ (f_Isl_join_L5 n v1 v2 v3 v4 σ) := by
  intro n
  induction n with
  | zero =>
    intros
    unfold f_Isl_join_L5
    exact S.no
  | succ n ih =>
    intro v1 v2 v3 v4 σ
    unfold f_Isl_join_L5
    refine S.of1 (pc2 := 7) (fun Q => g_iload d_Isl_join_5 rfl) ?_
    refine S.of1 (pc2 := 8) (fun Q => g_aload_n d_Isl_join_7 rfl) ?_
    refine S.of1 (pc2 := 11) (fun Q => g_geti fl_RX3_34 gc_1_6 d_Isl_join_8) ?_
    refine S.br (c := (σ.1 1 6) ≤ v4) (t := 58) (e := 14) (fun Q kt kf => g_icmp_ge d_Isl_join_11 rfl kt kf) (fun h1 => ?_) (fun h1 => ?_)
    · refine S.of1 (pc2 := 59) (fun Q => g_iload_n d_Isl_join_58 rfl) ?_
      exact S.ret (fun Q hq => g_iret rfl d_Isl_join_59 hq)
    · refine S.of1 (pc2 := 15) (fun Q => g_aload_n d_Isl_join_14 rfl) ?_
      refine S.of1 (pc2 := 18) (fun Q => g_getr fl_RX3_9 gc_1_0 d_Isl_join_15) ?_
      refine S.of1 (pc2 := 20) (fun Q => g_iload d_Isl_join_18 rfl) ?_
      refine S.chk (fun h2 => ?_)
      refine S.of1 (pc2 := 21) (fun Q => g_iald ga_2 (gix_in h2) d_Isl_join_20) ?_
      refine S.of1 (pc2 := 22) (fun Q => g_iload_n d_Isl_join_21 rfl) ?_
      refine S.br (c := (σ.1 2 v4.toNatClampNeg) = v2) (t := 25) (e := 33) (fun Q kt kf => g_icmp_ne d_Isl_join_22 rfl kf kt) (fun h3 => ?_) (fun h3 => ?_)
      · refine S.of1 (pc2 := 26) (fun Q => g_aload_n d_Isl_join_25 rfl) ?_
        refine S.of1 (pc2 := 29) (fun Q => g_getr fl_RX3_9 gc_1_0 d_Isl_join_26) ?_
        refine S.of1 (pc2 := 31) (fun Q => g_iload d_Isl_join_29 rfl) ?_
        refine S.of1 (pc2 := 32) (fun Q => g_iload_n d_Isl_join_31 rfl) ?_
        refine S.chk (fun h4 => ?_)
        refine S.of1 (pc2 := 33) (fun Q => g_iast ga_2 (gix_in h4) d_Isl_join_32) ?_
        refine S.gup (fun s5 => ?_)
        exact S.wk (L2 := [some (.ref 1), some (.int v1), some (.int v2), some (.int v3), some (.int v4)]) (And.intro rfl (And.intro rfl (And.intro rfl (And.intro rfl (And.intro rfl trivial))))) (s_Isl_join_j33 d hd (fun v1 v2 v3 v4 σ => f_Isl_join_L5 n v1 v2 v3 v4 σ) (fun v1 v2 v3 v4 τ => ih v1 v2 v3 v4 τ) v1 v2 v3 v4 s5)
      · exact S.wk (L2 := [some (.ref 1), some (.int v1), some (.int v2), some (.int v3), some (.int v4)]) (And.intro rfl (And.intro rfl (And.intro rfl (And.intro rfl (And.intro rfl trivial))))) (s_Isl_join_j33 d hd (fun v1 v2 v3 v4 σ => f_Isl_join_L5 n v1 v2 v3 v4 σ) (fun v1 v2 v3 v4 τ => ih v1 v2 v3 v4 τ) v1 v2 v3 v4 σ)
def f_Isl_join (v1 : Int32) (v2 : Int32) (σ : gS) : Option (Int32 × gS) :=
  f_Isl_join_L5 gfu v1 v2 (0 : Int32) (0 : Int32) σ
theorem c_Isl_join (d : Nat) (hd : 1 ≤ d) (v1 : Int32) (v2 : Int32) (σ : gS) : C wI d m_Isl_join [.ref 1, .int v1, .int v2] σ (f_Isl_join v1 v2 σ) := by
  unfold f_Isl_join
  refine C.of (by decide +kernel) (Nat.le_of_ble_eq_true rfl) (L := [some (.ref 1), some (.int v1), some (.int v2), none, none]) rfl ?_
  refine S.of1 (pc2 := 1) (fun Q => g_iconst (v := (0 : Int32)) d_Isl_join_0 (by decide)) ?_
  refine S.of1 (pc2 := 2) (L2 := [some (.ref 1), some (.int v1), some (.int v2), some (.int (0 : Int32)), none]) (fun Q => g_istore_n d_Isl_join_1 (Nat.le_of_ble_eq_true rfl) rfl) ?_
  refine S.of1 (pc2 := 3) (fun Q => g_iconst (v := (0 : Int32)) d_Isl_join_2 (by decide)) ?_
  refine S.of1 (pc2 := 5) (L2 := [some (.ref 1), some (.int v1), some (.int v2), some (.int (0 : Int32)), some (.int (0 : Int32))]) (fun Q => g_istore d_Isl_join_3 (Nat.le_of_ble_eq_true rfl) rfl) ?_
  exact S.wk (L2 := [some (.ref 1), some (.int v1), some (.int v2), some (.int (0 : Int32)), some (.int (0 : Int32))]) (And.intro rfl (And.intro rfl (And.intro rfl (And.intro rfl (And.intro rfl trivial))))) (s_Isl_join_L5 d hd gfu v1 v2 (0 : Int32) (0 : Int32) σ)
def f_Le_add (c : Nat) (v1 : Int32) (v2 : Int32) (σ : gS) : Option gS :=
  (f_T_within v1 (5 : Int32)).bind fun q1 => if q1 = 0 then some σ else if gix v1 5 then if gix v1 5 then gup (gpi σ (c + 1) v1.toNatClampNeg ((σ.1 (c + 1) v1.toNatClampNeg) + v2)) fun s5 => some s5 else none else none
theorem c_Le_add (d : Nat) (hd : 2 ≤ d) (c : Nat) (hc : gcls c = some 5) (v1 : Int32) (v2 : Int32) (σ : gS) : C wV d m_Le_add [.ref c, .int v1, .int v2] σ (f_Le_add c v1 v2 σ) := by
  unfold f_Le_add
  refine C.of (by decide +kernel) (Nat.le_of_ble_eq_true rfl) (L := [some (.ref c), some (.int v1), some (.int v2)]) rfl ?_
  refine S.of1 (pc2 := 1) (fun Q => g_iload_n d_Le_add_0 rfl) ?_
  refine S.of1 (pc2 := 2) (fun Q => g_iconst (v := (5 : Int32)) d_Le_add_1 (by decide)) ?_
  refine S.call_rI (pc3 := 5) rfl (c_T_within (d - 1) (by omega) v1 (5 : Int32) σ) (fun Q => g_callSN (M2 := m_T_within) (vs := [.int v1, .int (5 : Int32)]) (st := []) ln_RX5_13 rfl (Nat.le_of_ble_eq_true rfl) (by omega) (Nat.le_of_ble_eq_true rfl) rfl d_Le_add_2) (fun q1 => ?_)
  refine S.br (c := q1 = 0) (t := 18) (e := 8) (fun Q kt kf => g_if_eq d_Le_add_5 rfl kt kf) (fun h2 => ?_) (fun h2 => ?_)
  · exact S.ret (fun Q hq => g_vret rfl d_Le_add_18 hq)
  · refine S.of1 (pc2 := 9) (fun Q => g_aload_n d_Le_add_8 rfl) ?_
    refine S.of1 (pc2 := 12) (fun Q => g_getr fl_RX5_9 (gq_5_0 hc) d_Le_add_9) ?_
    refine S.of1 (pc2 := 13) (fun Q => g_iload_n d_Le_add_12 rfl) ?_
    refine S.of1 (pc2 := 14) (fun Q => g_dup2 d_Le_add_13 rfl rfl) ?_
    refine S.chk (fun h3 => ?_)
    refine S.of1 (pc2 := 15) (fun Q => g_iald (gp_5_0 hc) (gix_in h3) d_Le_add_14) ?_
    refine S.of1 (pc2 := 16) (fun Q => g_iload_n d_Le_add_15 rfl) ?_
    refine S.of1 (pc2 := 17) (fun Q => g_iadd d_Le_add_16) ?_
    refine S.chk (fun h4 => ?_)
    refine S.of1 (pc2 := 18) (fun Q => g_iast (gp_5_0 hc) (gix_in h4) d_Le_add_17) ?_
    refine S.gup (fun s5 => ?_)
    exact S.ret (fun Q hq => g_vret rfl d_Le_add_18 hq)
def f_T_marry (v1 : Int32) (σ : gS) : Option (Int32 × gS) :=
  (f_T_areTwo v1 (8 : Int32)).bind fun q1 => if q1 = 0 then some ((-1 : Int32), σ) else if (v1 / (10 : Int32)) = (grem v1 (10 : Int32)) then some ((-1 : Int32), σ) else (f_Le_add 36 (2 : Int32) (1 : Int32) σ).bind fun s4 => (f_Isl_join (gmin (v1 / (10 : Int32)) (grem v1 (10 : Int32))) (gmax (v1 / (10 : Int32)) (grem v1 (10 : Int32))) s4).bind fun q5 => some (q5.1, q5.2)
theorem c_T_marry (d : Nat) (hd : 3 ≤ d) (v1 : Int32) (σ : gS) : C wI d m_T_marry [.ref 0, .int v1] σ (f_T_marry v1 σ) := by
  unfold f_T_marry
  refine C.of (by decide +kernel) (Nat.le_of_ble_eq_true rfl) (L := [some (.ref 0), some (.int v1)]) rfl ?_
  refine S.of1 (pc2 := 1) (fun Q => g_iload_n d_T_marry_0 rfl) ?_
  refine S.of1 (pc2 := 3) (fun Q => g_bipush (v := (8 : Int32)) d_T_marry_1 (by decide)) ?_
  refine S.call_rI (pc3 := 6) rfl (c_T_areTwo (d - 1) (by omega) v1 (8 : Int32) σ) (fun Q => g_callS (M2 := m_T_areTwo) (vs := [.int v1, .int (8 : Int32)]) (st := []) ls_RX10_174 rfl (Nat.le_of_ble_eq_true rfl) (by omega) (Nat.le_of_ble_eq_true rfl) rfl d_T_marry_3) (fun q1 => ?_)
  refine S.br (c := q1 = 0) (t := 20) (e := 9) (fun Q kt kf => g_if_eq d_T_marry_6 rfl kt kf) (fun h2 => ?_) (fun h2 => ?_)
  · refine S.of1 (pc2 := 21) (fun Q => g_iconst (v := (-1 : Int32)) d_T_marry_20 (by decide)) ?_
    exact S.ret (fun Q hq => g_iret rfl d_T_marry_21 hq)
  · refine S.of1 (pc2 := 10) (fun Q => g_iload_n d_T_marry_9 rfl) ?_
    refine S.of1 (pc2 := 12) (fun Q => g_bipush (v := (10 : Int32)) d_T_marry_10 (by decide)) ?_
    refine S.of1 (pc2 := 13) (fun Q => g_idiv d_T_marry_12 (by decide)) ?_
    refine S.of1 (pc2 := 14) (fun Q => g_iload_n d_T_marry_13 rfl) ?_
    refine S.of1 (pc2 := 16) (fun Q => g_bipush (v := (10 : Int32)) d_T_marry_14 (by decide)) ?_
    refine S.of1 (pc2 := 17) (fun Q => g_irem d_T_marry_16 (by decide)) ?_
    refine S.br (c := (v1 / (10 : Int32)) = (grem v1 (10 : Int32))) (t := 20) (e := 22) (fun Q kt kf => g_icmp_ne d_T_marry_17 rfl kf kt) (fun h3 => ?_) (fun h3 => ?_)
    · refine S.of1 (pc2 := 21) (fun Q => g_iconst (v := (-1 : Int32)) d_T_marry_20 (by decide)) ?_
      exact S.ret (fun Q hq => g_iret rfl d_T_marry_21 hq)
    · refine S.of1 (pc2 := 23) (fun Q => g_aload_n d_T_marry_22 rfl) ?_
      refine S.of1 (pc2 := 26) (fun Q => g_getr fl_RX10_47 gc_0_5 d_T_marry_23) ?_
      refine S.of1 (pc2 := 27) (fun Q => g_iconst (v := (2 : Int32)) d_T_marry_26 (by decide)) ?_
      refine S.of1 (pc2 := 28) (fun Q => g_iconst (v := (1 : Int32)) d_T_marry_27 (by decide)) ?_
      refine S.call_wV (pc3 := 31) rfl (c_Le_add (d - 1) (by omega) 36 gk_36 (2 : Int32) (1 : Int32) σ) (fun Q => g_callV (M2 := m_Le_add) (vs := [.int (2 : Int32), .int (1 : Int32)]) (st := []) lv_RX10_268 gk_36 rfl rfl (Nat.le_of_ble_eq_true rfl) (by omega) (Nat.le_of_ble_eq_true rfl) rfl d_T_marry_28) (fun s4 => ?_)
      refine S.of1 (pc2 := 32) (fun Q => g_aload_n d_T_marry_31 rfl) ?_
      refine S.of1 (pc2 := 35) (fun Q => g_getr fl_RX10_10 gc_0_0 d_T_marry_32) ?_
      refine S.of1 (pc2 := 36) (fun Q => g_iload_n d_T_marry_35 rfl) ?_
      refine S.of1 (pc2 := 38) (fun Q => g_bipush (v := (10 : Int32)) d_T_marry_36 (by decide)) ?_
      refine S.of1 (pc2 := 39) (fun Q => g_idiv d_T_marry_38 (by decide)) ?_
      refine S.of1 (pc2 := 40) (fun Q => g_iload_n d_T_marry_39 rfl) ?_
      refine S.of1 (pc2 := 42) (fun Q => g_bipush (v := (10 : Int32)) d_T_marry_40 (by decide)) ?_
      refine S.of1 (pc2 := 43) (fun Q => g_irem d_T_marry_42 (by decide)) ?_
      refine S.of1 (pc2 := 46) (fun Q => g_mmin w_901 w_600 w_91 wc_min (by omega) (Nat.le_of_ble_eq_true rfl) d_T_marry_43) ?_
      refine S.of1 (pc2 := 47) (fun Q => g_iload_n d_T_marry_46 rfl) ?_
      refine S.of1 (pc2 := 49) (fun Q => g_bipush (v := (10 : Int32)) d_T_marry_47 (by decide)) ?_
      refine S.of1 (pc2 := 50) (fun Q => g_idiv d_T_marry_49 (by decide)) ?_
      refine S.of1 (pc2 := 51) (fun Q => g_iload_n d_T_marry_50 rfl) ?_
      refine S.of1 (pc2 := 53) (fun Q => g_bipush (v := (10 : Int32)) d_T_marry_51 (by decide)) ?_
      refine S.of1 (pc2 := 54) (fun Q => g_irem d_T_marry_53 (by decide)) ?_
      refine S.of1 (pc2 := 57) (fun Q => g_mmax w_903 w_597 w_91 wc_max (by omega) (Nat.le_of_ble_eq_true rfl) d_T_marry_54) ?_
      refine S.call_wI (pc3 := 60) rfl (c_Isl_join (d - 1) (by omega) (gmin (v1 / (10 : Int32)) (grem v1 (10 : Int32))) (gmax (v1 / (10 : Int32)) (grem v1 (10 : Int32))) s4) (fun Q => g_callV (M2 := m_Isl_join) (vs := [.int (gmin (v1 / (10 : Int32)) (grem v1 (10 : Int32))), .int (gmax (v1 / (10 : Int32)) (grem v1 (10 : Int32)))]) (st := []) lv_RX10_274 gk_1 rfl rfl (Nat.le_of_ble_eq_true rfl) (by omega) (Nat.le_of_ble_eq_true rfl) rfl d_T_marry_57) (fun q5 => ?_)
      exact S.ret (fun Q hq => g_iret rfl d_T_marry_60 hq)
def f_T_paid (v1 : Int32) (v2 : Int32) (σ : gS) : Option (Int32 × gS) :=
  (f_T_within v1 (σ.1 1 6)).bind fun q1 => if q1 = 0 then some ((-1 : Int32), σ) else (f_T_within v2 (7 : Int32)).bind fun q3 => if q3 = 0 then some ((-1 : Int32), σ) else if v2 = (6 : Int32) then if gix v1 10 then gup (gpi σ 5 v1.toNatClampNeg (-1 : Int32)) fun s7 => some ((0 : Int32), s7) else none else if gix v1 10 then gup (gpi σ 5 v1.toNatClampNeg v2) fun s9 => if gix v1 10 then (f_Le_add 36 (3 : Int32) (s9.1 4 v1.toNatClampNeg) s9).bind fun s11 => if gix v1 10 then some ((s11.1 4 v1.toNatClampNeg), s11) else none else none else none
theorem c_T_paid (d : Nat) (hd : 3 ≤ d) (v1 : Int32) (v2 : Int32) (σ : gS) : C wI d m_T_paid [.ref 0, .int v1, .int v2] σ (f_T_paid v1 v2 σ) := by
  unfold f_T_paid
  refine C.of (by decide +kernel) (Nat.le_of_ble_eq_true rfl) (L := [some (.ref 0), some (.int v1), some (.int v2)]) rfl ?_
  refine S.of1 (pc2 := 1) (fun Q => g_iload_n d_T_paid_0 rfl) ?_
  refine S.of1 (pc2 := 2) (fun Q => g_aload_n d_T_paid_1 rfl) ?_
  refine S.of1 (pc2 := 5) (fun Q => g_getr fl_RX10_10 gc_0_0 d_T_paid_2) ?_
  refine S.of1 (pc2 := 8) (fun Q => g_geti fl_RX10_126 gc_1_6 d_T_paid_5) ?_
  refine S.call_rI (pc3 := 11) rfl (c_T_within (d - 1) (by omega) v1 (σ.1 1 6) σ) (fun Q => g_callS (M2 := m_T_within) (vs := [.int v1, .int (σ.1 1 6)]) (st := []) ls_RX10_72 rfl (Nat.le_of_ble_eq_true rfl) (by omega) (Nat.le_of_ble_eq_true rfl) rfl d_T_paid_8) (fun q1 => ?_)
  refine S.br (c := q1 = 0) (t := 23) (e := 14) (fun Q kt kf => g_if_eq d_T_paid_11 rfl kt kf) (fun h2 => ?_) (fun h2 => ?_)
  · refine S.of1 (pc2 := 24) (fun Q => g_iconst (v := (-1 : Int32)) d_T_paid_23 (by decide)) ?_
    exact S.ret (fun Q hq => g_iret rfl d_T_paid_24 hq)
  · refine S.of1 (pc2 := 15) (fun Q => g_iload_n d_T_paid_14 rfl) ?_
    refine S.of1 (pc2 := 17) (fun Q => g_bipush (v := (7 : Int32)) d_T_paid_15 (by decide)) ?_
    refine S.call_rI (pc3 := 20) rfl (c_T_within (d - 1) (by omega) v2 (7 : Int32) σ) (fun Q => g_callS (M2 := m_T_within) (vs := [.int v2, .int (7 : Int32)]) (st := []) ls_RX10_72 rfl (Nat.le_of_ble_eq_true rfl) (by omega) (Nat.le_of_ble_eq_true rfl) rfl d_T_paid_17) (fun q3 => ?_)
    refine S.br (c := q3 = 0) (t := 23) (e := 25) (fun Q kt kf => g_if_ne d_T_paid_20 rfl kf kt) (fun h4 => ?_) (fun h4 => ?_)
    · refine S.of1 (pc2 := 24) (fun Q => g_iconst (v := (-1 : Int32)) d_T_paid_23 (by decide)) ?_
      exact S.ret (fun Q hq => g_iret rfl d_T_paid_24 hq)
    · refine S.of1 (pc2 := 26) (fun Q => g_iload_n d_T_paid_25 rfl) ?_
      refine S.of1 (pc2 := 28) (fun Q => g_bipush (v := (6 : Int32)) d_T_paid_26 (by decide)) ?_
      refine S.br (c := v2 = (6 : Int32)) (t := 31) (e := 43) (fun Q kt kf => g_icmp_ne d_T_paid_28 rfl kf kt) (fun h5 => ?_) (fun h5 => ?_)
      · refine S.of1 (pc2 := 32) (fun Q => g_aload_n d_T_paid_31 rfl) ?_
        refine S.of1 (pc2 := 35) (fun Q => g_getr fl_RX10_10 gc_0_0 d_T_paid_32) ?_
        refine S.of1 (pc2 := 38) (fun Q => g_getr fl_RX10_277 gc_1_3 d_T_paid_35) ?_
        refine S.of1 (pc2 := 39) (fun Q => g_iload_n d_T_paid_38 rfl) ?_
        refine S.of1 (pc2 := 40) (fun Q => g_iconst (v := (-1 : Int32)) d_T_paid_39 (by decide)) ?_
        refine S.chk (fun h6 => ?_)
        refine S.of1 (pc2 := 41) (fun Q => g_iast ga_5 (gix_in h6) d_T_paid_40) ?_
        refine S.gup (fun s7 => ?_)
        refine S.of1 (pc2 := 42) (fun Q => g_iconst (v := (0 : Int32)) d_T_paid_41 (by decide)) ?_
        exact S.ret (fun Q hq => g_iret rfl d_T_paid_42 hq)
      · refine S.of1 (pc2 := 44) (fun Q => g_aload_n d_T_paid_43 rfl) ?_
        refine S.of1 (pc2 := 47) (fun Q => g_getr fl_RX10_10 gc_0_0 d_T_paid_44) ?_
        refine S.of1 (pc2 := 50) (fun Q => g_getr fl_RX10_277 gc_1_3 d_T_paid_47) ?_
        refine S.of1 (pc2 := 51) (fun Q => g_iload_n d_T_paid_50 rfl) ?_
        refine S.of1 (pc2 := 52) (fun Q => g_iload_n d_T_paid_51 rfl) ?_
        refine S.chk (fun h8 => ?_)
        refine S.of1 (pc2 := 53) (fun Q => g_iast ga_5 (gix_in h8) d_T_paid_52) ?_
        refine S.gup (fun s9 => ?_)
        refine S.of1 (pc2 := 54) (fun Q => g_aload_n d_T_paid_53 rfl) ?_
        refine S.of1 (pc2 := 57) (fun Q => g_getr fl_RX10_47 gc_0_5 d_T_paid_54) ?_
        refine S.of1 (pc2 := 58) (fun Q => g_iconst (v := (3 : Int32)) d_T_paid_57 (by decide)) ?_
        refine S.of1 (pc2 := 59) (fun Q => g_aload_n d_T_paid_58 rfl) ?_
        refine S.of1 (pc2 := 62) (fun Q => g_getr fl_RX10_10 gc_0_0 d_T_paid_59) ?_
        refine S.of1 (pc2 := 65) (fun Q => g_getr fl_RX10_281 gc_1_2 d_T_paid_62) ?_
        refine S.of1 (pc2 := 66) (fun Q => g_iload_n d_T_paid_65 rfl) ?_
        refine S.chk (fun h10 => ?_)
        refine S.of1 (pc2 := 67) (fun Q => g_iald ga_4 (gix_in h10) d_T_paid_66) ?_
        refine S.call_wV (pc3 := 70) rfl (c_Le_add (d - 1) (by omega) 36 gk_36 (3 : Int32) (s9.1 4 v1.toNatClampNeg) s9) (fun Q => g_callV (M2 := m_Le_add) (vs := [.int (3 : Int32), .int (s9.1 4 v1.toNatClampNeg)]) (st := []) lv_RX10_268 gk_36 rfl rfl (Nat.le_of_ble_eq_true rfl) (by omega) (Nat.le_of_ble_eq_true rfl) rfl d_T_paid_67) (fun s11 => ?_)
        refine S.of1 (pc2 := 71) (fun Q => g_aload_n d_T_paid_70 rfl) ?_
        refine S.of1 (pc2 := 74) (fun Q => g_getr fl_RX10_10 gc_0_0 d_T_paid_71) ?_
        refine S.of1 (pc2 := 77) (fun Q => g_getr fl_RX10_281 gc_1_2 d_T_paid_74) ?_
        refine S.of1 (pc2 := 78) (fun Q => g_iload_n d_T_paid_77 rfl) ?_
        refine S.chk (fun h12 => ?_)
        refine S.of1 (pc2 := 79) (fun Q => g_iald ga_4 (gix_in h12) d_T_paid_78) ?_
        exact S.ret (fun Q hq => g_iret rfl d_T_paid_79 hq)
def f_T_led (v1 : Int32) (σ : gS) : Option Int32 :=
  (f_T_within v1 (5 : Int32)).bind fun q1 => if q1 = 0 then some (-1 : Int32) else if gix v1 5 then some (σ.1 37 v1.toNatClampNeg) else none
theorem c_T_led (d : Nat) (hd : 2 ≤ d) (v1 : Int32) (σ : gS) : C (rI σ) d m_T_led [.ref 0, .int v1] σ (f_T_led v1 σ) := by
  unfold f_T_led
  refine C.of (by decide +kernel) (Nat.le_of_ble_eq_true rfl) (L := [some (.ref 0), some (.int v1)]) rfl ?_
  refine S.of1 (pc2 := 1) (fun Q => g_iload_n d_T_led_0 rfl) ?_
  refine S.of1 (pc2 := 2) (fun Q => g_iconst (v := (5 : Int32)) d_T_led_1 (by decide)) ?_
  refine S.call_rI (pc3 := 5) rfl (c_T_within (d - 1) (by omega) v1 (5 : Int32) σ) (fun Q => g_callS (M2 := m_T_within) (vs := [.int v1, .int (5 : Int32)]) (st := []) ls_RX10_72 rfl (Nat.le_of_ble_eq_true rfl) (by omega) (Nat.le_of_ble_eq_true rfl) rfl d_T_led_2) (fun q1 => ?_)
  refine S.br (c := q1 = 0) (t := 20) (e := 8) (fun Q kt kf => g_if_eq d_T_led_5 rfl kt kf) (fun h2 => ?_) (fun h2 => ?_)
  · refine S.of1 (pc2 := 21) (fun Q => g_iconst (v := (-1 : Int32)) d_T_led_20 (by decide)) ?_
    exact S.ret (fun Q hq => g_iret rfl d_T_led_21 hq)
  · refine S.of1 (pc2 := 9) (fun Q => g_aload_n d_T_led_8 rfl) ?_
    refine S.of1 (pc2 := 12) (fun Q => g_getr fl_RX10_47 gc_0_5 d_T_led_9) ?_
    refine S.of1 (pc2 := 15) (fun Q => g_getr fl_RX10_284 gc_36_0 d_T_led_12) ?_
    refine S.of1 (pc2 := 16) (fun Q => g_iload_n d_T_led_15 rfl) ?_
    refine S.chk (fun h3 => ?_)
    refine S.of1 (pc2 := 17) (fun Q => g_iald ga_37 (gix_in h3) d_T_led_16) ?_
    refine S.of1 (pc2 := 21) (fun Q => g_goto d_T_led_17 rfl) ?_
    exact S.ret (fun Q hq => g_iret rfl d_T_led_21 hq)
def f_Le_copyFrom (c : Nat) (r1 : Nat) (σ : gS) : Option gS :=
  if gcpy (0 : Int32) (0 : Int32) (5 : Int32) 5 5 then gup (gsi σ (c + 1) (va_cpy (σ.1 (r1 + 1)) (σ.1 (c + 1)) (0 : Int32).toNatClampNeg (0 : Int32).toNatClampNeg (5 : Int32).toNatClampNeg)) fun s2 => gup (gpi s2 c 1 (s2.1 r1 1)) fun s3 => gup (gpi s3 c 2 (s3.1 r1 2)) fun s4 => some s4 else none
theorem c_Le_copyFrom (d : Nat) (hd : 2 ≤ d) (c : Nat) (hc : gcls c = some 5) (r1 : Nat) (hr1 : gcls r1 = some 5) (σ : gS) : C wV d m_Le_copyFrom [.ref c, .ref r1] σ (f_Le_copyFrom c r1 σ) := by
  unfold f_Le_copyFrom
  refine C.of (by decide +kernel) (Nat.le_of_ble_eq_true rfl) (L := [some (.ref c), some (.ref r1)]) rfl ?_
  refine S.of1 (pc2 := 1) (fun Q => g_aload_n d_Le_copyFrom_0 rfl) ?_
  refine S.of1 (pc2 := 4) (fun Q => g_getr fl_RX5_9 (gq_5_0 hr1) d_Le_copyFrom_1) ?_
  refine S.of1 (pc2 := 5) (fun Q => g_iconst (v := (0 : Int32)) d_Le_copyFrom_4 (by decide)) ?_
  refine S.of1 (pc2 := 6) (fun Q => g_aload_n d_Le_copyFrom_5 rfl) ?_
  refine S.of1 (pc2 := 9) (fun Q => g_getr fl_RX5_9 (gq_5_0 hc) d_Le_copyFrom_6) ?_
  refine S.of1 (pc2 := 10) (fun Q => g_iconst (v := (0 : Int32)) d_Le_copyFrom_9 (by decide)) ?_
  refine S.of1 (pc2 := 11) (fun Q => g_iconst (v := (5 : Int32)) d_Le_copyFrom_10 (by decide)) ?_
  refine S.chk (fun h1 => ?_)
  refine S.of1 (pc2 := 14) (fun Q => g_copyi w_1019 gMcp_ok (gp_5_0 hr1) (gp_5_0 hc) (gcpy1 h1) (gcpy2 h1) (gcpy3 h1) (gcpy4 h1) (gcpy5 h1) (by omega) (Nat.le_of_ble_eq_true rfl) d_Le_copyFrom_11) ?_
  refine S.gup (fun s2 => ?_)
  refine S.of1 (pc2 := 15) (fun Q => g_aload_n d_Le_copyFrom_14 rfl) ?_
  refine S.of1 (pc2 := 16) (fun Q => g_aload_n d_Le_copyFrom_15 rfl) ?_
  refine S.of1 (pc2 := 19) (fun Q => g_geti fl_RX5_23 (gq_5_1 hr1) d_Le_copyFrom_16) ?_
  refine S.of1 (pc2 := 22) (fun Q => g_puti fl_RX5_23 (gq_5_1 hc) rfl rfl d_Le_copyFrom_19) ?_
  refine S.gup (fun s3 => ?_)
  refine S.of1 (pc2 := 23) (fun Q => g_aload_n d_Le_copyFrom_22 rfl) ?_
  refine S.of1 (pc2 := 24) (fun Q => g_aload_n d_Le_copyFrom_23 rfl) ?_
  refine S.of1 (pc2 := 27) (fun Q => g_geti fl_RX5_19 (gq_5_2 hr1) d_Le_copyFrom_24) ?_
  refine S.of1 (pc2 := 30) (fun Q => g_puti fl_RX5_19 (gq_5_2 hc) rfl rfl d_Le_copyFrom_27) ?_
  refine S.gup (fun s4 => ?_)
  exact S.ret (fun Q hq => g_vret rfl d_Le_copyFrom_30 hq)
def f_Pi_take (r2 : Nat) (σ : gS) : Option gS :=
  if gcpy (0 : Int32) (0 : Int32) (10 : Int32) 10 10 then gup (gsi σ 39 (va_cpy (σ.1 2) (σ.1 39) (0 : Int32).toNatClampNeg (0 : Int32).toNatClampNeg (10 : Int32).toNatClampNeg)) fun s2 => if gcpy (0 : Int32) (0 : Int32) (10 : Int32) 10 10 then gup (gsi s2 40 (va_cpy (s2.1 5) (s2.1 40) (0 : Int32).toNatClampNeg (0 : Int32).toNatClampNeg (10 : Int32).toNatClampNeg)) fun s4 => (f_Le_copyFrom 41 r2 s4).bind fun s5 => gup (gpi s5 38 3 (s5.1 1 6)) fun s6 => gup (gpi s6 38 4 (s6.1 1 9)) fun s7 => gup (gpi s7 38 5 (1 : Int32)) fun s8 => some s8 else none else none
theorem c_Pi_take (d : Nat) (hd : 3 ≤ d) (r2 : Nat) (hr2 : gcls r2 = some 5) (σ : gS) : C wV d m_Pi_take [.ref 38, .ref 1, .ref r2] σ (f_Pi_take r2 σ) := by
  unfold f_Pi_take
  refine C.of (by decide +kernel) (Nat.le_of_ble_eq_true rfl) (L := [some (.ref 38), some (.ref 1), some (.ref r2)]) rfl ?_
  refine S.of1 (pc2 := 1) (fun Q => g_aload_n d_Pi_take_0 rfl) ?_
  refine S.of1 (pc2 := 4) (fun Q => g_getr fl_RX7_25 gc_1_0 d_Pi_take_1) ?_
  refine S.of1 (pc2 := 5) (fun Q => g_iconst (v := (0 : Int32)) d_Pi_take_4 (by decide)) ?_
  refine S.of1 (pc2 := 6) (fun Q => g_aload_n d_Pi_take_5 rfl) ?_
  refine S.of1 (pc2 := 9) (fun Q => g_getr fl_RX7_9 gc_38_0 d_Pi_take_6) ?_
  refine S.of1 (pc2 := 10) (fun Q => g_iconst (v := (0 : Int32)) d_Pi_take_9 (by decide)) ?_
  refine S.of1 (pc2 := 12) (fun Q => g_bipush (v := (10 : Int32)) d_Pi_take_10 (by decide)) ?_
  refine S.chk (fun h1 => ?_)
  refine S.of1 (pc2 := 15) (fun Q => g_copyi w_1014 gMcp_ok ga_2 ga_39 (gcpy1 h1) (gcpy2 h1) (gcpy3 h1) (gcpy4 h1) (gcpy5 h1) (by omega) (Nat.le_of_ble_eq_true rfl) d_Pi_take_12) ?_
  refine S.gup (fun s2 => ?_)
  refine S.of1 (pc2 := 16) (fun Q => g_aload_n d_Pi_take_15 rfl) ?_
  refine S.of1 (pc2 := 19) (fun Q => g_getr fl_RX7_34 gc_1_3 d_Pi_take_16) ?_
  refine S.of1 (pc2 := 20) (fun Q => g_iconst (v := (0 : Int32)) d_Pi_take_19 (by decide)) ?_
  refine S.of1 (pc2 := 21) (fun Q => g_aload_n d_Pi_take_20 rfl) ?_
  refine S.of1 (pc2 := 24) (fun Q => g_getr fl_RX7_15 gc_38_1 d_Pi_take_21) ?_
  refine S.of1 (pc2 := 25) (fun Q => g_iconst (v := (0 : Int32)) d_Pi_take_24 (by decide)) ?_
  refine S.of1 (pc2 := 27) (fun Q => g_bipush (v := (10 : Int32)) d_Pi_take_25 (by decide)) ?_
  refine S.chk (fun h3 => ?_)
  refine S.of1 (pc2 := 30) (fun Q => g_copyi w_1014 gMcp_ok ga_5 ga_40 (gcpy1 h3) (gcpy2 h3) (gcpy3 h3) (gcpy4 h3) (gcpy5 h3) (by omega) (Nat.le_of_ble_eq_true rfl) d_Pi_take_27) ?_
  refine S.gup (fun s4 => ?_)
  refine S.of1 (pc2 := 31) (fun Q => g_aload_n d_Pi_take_30 rfl) ?_
  refine S.of1 (pc2 := 34) (fun Q => g_getr fl_RX7_21 gc_38_2 d_Pi_take_31) ?_
  refine S.of1 (pc2 := 35) (fun Q => g_aload_n d_Pi_take_34 rfl) ?_
  refine S.call_wV (pc3 := 38) rfl (c_Le_copyFrom (d - 1) (by omega) 41 gk_41 r2 hr2 s4) (fun Q => g_callV (M2 := m_Le_copyFrom) (vs := [.ref r2]) (st := []) lv_RX7_35 gk_41 rfl rfl (Nat.le_of_ble_eq_true rfl) (by omega) (Nat.le_of_ble_eq_true rfl) rfl d_Pi_take_35) (fun s5 => ?_)
  refine S.of1 (pc2 := 39) (fun Q => g_aload_n d_Pi_take_38 rfl) ?_
  refine S.of1 (pc2 := 40) (fun Q => g_aload_n d_Pi_take_39 rfl) ?_
  refine S.of1 (pc2 := 43) (fun Q => g_geti fl_RX7_39 gc_1_6 d_Pi_take_40) ?_
  refine S.of1 (pc2 := 46) (fun Q => g_puti fl_RX7_43 gc_38_3 rfl rfl d_Pi_take_43) ?_
  refine S.gup (fun s6 => ?_)
  refine S.of1 (pc2 := 47) (fun Q => g_aload_n d_Pi_take_46 rfl) ?_
  refine S.of1 (pc2 := 48) (fun Q => g_aload_n d_Pi_take_47 rfl) ?_
  refine S.of1 (pc2 := 51) (fun Q => g_geti fl_RX7_44 gc_1_9 d_Pi_take_48) ?_
  refine S.of1 (pc2 := 54) (fun Q => g_puti fl_RX7_47 gc_38_4 rfl rfl d_Pi_take_51) ?_
  refine S.gup (fun s7 => ?_)
  refine S.of1 (pc2 := 55) (fun Q => g_aload_n d_Pi_take_54 rfl) ?_
  refine S.of1 (pc2 := 56) (fun Q => g_iconst (v := (1 : Int32)) d_Pi_take_55 (by decide)) ?_
  refine S.of1 (pc2 := 59) (fun Q => g_puti fl_RX7_48 gc_38_5 rfl rfl d_Pi_take_56) ?_
  refine S.gup (fun s8 => ?_)
  exact S.ret (fun Q hq => g_vret rfl d_Pi_take_59 hq)
def f_T_image (σ : gS) : Option (Int32 × gS) :=
  (f_Pi_take 36 σ).bind fun s1 => some ((s1.1 37 4), s1)
theorem c_T_image (d : Nat) (hd : 4 ≤ d) (σ : gS) : C wI d m_T_image [.ref 0] σ (f_T_image σ) := by
  unfold f_T_image
  refine C.of (by decide +kernel) (Nat.le_of_ble_eq_true rfl) (L := [some (.ref 0)]) rfl ?_
  refine S.of1 (pc2 := 1) (fun Q => g_aload_n d_T_image_0 rfl) ?_
  refine S.of1 (pc2 := 4) (fun Q => g_getr fl_RX10_54 gc_0_6 d_T_image_1) ?_
  refine S.of1 (pc2 := 5) (fun Q => g_aload_n d_T_image_4 rfl) ?_
  refine S.of1 (pc2 := 8) (fun Q => g_getr fl_RX10_10 gc_0_0 d_T_image_5) ?_
  refine S.of1 (pc2 := 9) (fun Q => g_aload_n d_T_image_8 rfl) ?_
  refine S.of1 (pc2 := 12) (fun Q => g_getr fl_RX10_47 gc_0_5 d_T_image_9) ?_
  refine S.call_wV (pc3 := 15) rfl (c_Pi_take (d - 1) (by omega) 36 gk_36 σ) (fun Q => g_callV (M2 := m_Pi_take) (vs := [.ref 1, .ref 36]) (st := []) lv_RX10_287 gk_38 rfl rfl (Nat.le_of_ble_eq_true rfl) (by omega) (Nat.le_of_ble_eq_true rfl) rfl d_T_image_12) (fun s1 => ?_)
  refine S.of1 (pc2 := 16) (fun Q => g_aload_n d_T_image_15 rfl) ?_
  refine S.of1 (pc2 := 19) (fun Q => g_getr fl_RX10_47 gc_0_5 d_T_image_16) ?_
  refine S.of1 (pc2 := 22) (fun Q => g_getr fl_RX10_284 gc_36_0 d_T_image_19) ?_
  refine S.of1 (pc2 := 23) (fun Q => g_iconst (v := (4 : Int32)) d_T_image_22 (by decide)) ?_
  refine S.of1 (pc2 := 24) (fun Q => g_iald ga_37 (vp_lit rfl) d_T_image_23) ?_
  exact S.ret (fun Q hq => g_iret rfl d_T_image_24 hq)
def f_Pi_layBack (r2 : Nat) (σ : gS) : Option gS :=
  if gcpy (0 : Int32) (0 : Int32) (σ.1 38 3) 10 10 then gup (gsi σ 2 (va_cpy (σ.1 39) (σ.1 2) (0 : Int32).toNatClampNeg (0 : Int32).toNatClampNeg (σ.1 38 3).toNatClampNeg)) fun s2 => if gcpy (0 : Int32) (0 : Int32) (s2.1 38 3) 10 10 then gup (gsi s2 5 (va_cpy (s2.1 40) (s2.1 5) (0 : Int32).toNatClampNeg (0 : Int32).toNatClampNeg (s2.1 38 3).toNatClampNeg)) fun s4 => (f_Le_copyFrom r2 41 s4).bind fun s5 => gup (gpi s5 1 9 (s5.1 38 4)) fun s6 => some s6 else none else none
theorem c_Pi_layBack (d : Nat) (hd : 3 ≤ d) (r2 : Nat) (hr2 : gcls r2 = some 5) (σ : gS) : C wV d m_Pi_layBack [.ref 38, .ref 1, .ref r2] σ (f_Pi_layBack r2 σ) := by
  unfold f_Pi_layBack
  refine C.of (by decide +kernel) (Nat.le_of_ble_eq_true rfl) (L := [some (.ref 38), some (.ref 1), some (.ref r2)]) rfl ?_
  refine S.of1 (pc2 := 1) (fun Q => g_aload_n d_Pi_layBack_0 rfl) ?_
  refine S.of1 (pc2 := 4) (fun Q => g_getr fl_RX7_9 gc_38_0 d_Pi_layBack_1) ?_
  refine S.of1 (pc2 := 5) (fun Q => g_iconst (v := (0 : Int32)) d_Pi_layBack_4 (by decide)) ?_
  refine S.of1 (pc2 := 6) (fun Q => g_aload_n d_Pi_layBack_5 rfl) ?_
  refine S.of1 (pc2 := 9) (fun Q => g_getr fl_RX7_25 gc_1_0 d_Pi_layBack_6) ?_
  refine S.of1 (pc2 := 10) (fun Q => g_iconst (v := (0 : Int32)) d_Pi_layBack_9 (by decide)) ?_
  refine S.of1 (pc2 := 11) (fun Q => g_aload_n d_Pi_layBack_10 rfl) ?_
  refine S.of1 (pc2 := 14) (fun Q => g_geti fl_RX7_43 gc_38_3 d_Pi_layBack_11) ?_
  refine S.chk (fun h1 => ?_)
  refine S.of1 (pc2 := 17) (fun Q => g_copyi w_1014 gMcp_ok ga_39 ga_2 (gcpy1 h1) (gcpy2 h1) (gcpy3 h1) (gcpy4 h1) (gcpy5 h1) (by omega) (Nat.le_of_ble_eq_true rfl) d_Pi_layBack_14) ?_
  refine S.gup (fun s2 => ?_)
  refine S.of1 (pc2 := 18) (fun Q => g_aload_n d_Pi_layBack_17 rfl) ?_
  refine S.of1 (pc2 := 21) (fun Q => g_getr fl_RX7_15 gc_38_1 d_Pi_layBack_18) ?_
  refine S.of1 (pc2 := 22) (fun Q => g_iconst (v := (0 : Int32)) d_Pi_layBack_21 (by decide)) ?_
  refine S.of1 (pc2 := 23) (fun Q => g_aload_n d_Pi_layBack_22 rfl) ?_
  refine S.of1 (pc2 := 26) (fun Q => g_getr fl_RX7_34 gc_1_3 d_Pi_layBack_23) ?_
  refine S.of1 (pc2 := 27) (fun Q => g_iconst (v := (0 : Int32)) d_Pi_layBack_26 (by decide)) ?_
  refine S.of1 (pc2 := 28) (fun Q => g_aload_n d_Pi_layBack_27 rfl) ?_
  refine S.of1 (pc2 := 31) (fun Q => g_geti fl_RX7_43 gc_38_3 d_Pi_layBack_28) ?_
  refine S.chk (fun h3 => ?_)
  refine S.of1 (pc2 := 34) (fun Q => g_copyi w_1014 gMcp_ok ga_40 ga_5 (gcpy1 h3) (gcpy2 h3) (gcpy3 h3) (gcpy4 h3) (gcpy5 h3) (by omega) (Nat.le_of_ble_eq_true rfl) d_Pi_layBack_31) ?_
  refine S.gup (fun s4 => ?_)
  refine S.of1 (pc2 := 35) (fun Q => g_aload_n d_Pi_layBack_34 rfl) ?_
  refine S.of1 (pc2 := 36) (fun Q => g_aload_n d_Pi_layBack_35 rfl) ?_
  refine S.of1 (pc2 := 39) (fun Q => g_getr fl_RX7_21 gc_38_2 d_Pi_layBack_36) ?_
  refine S.call_wV (pc3 := 42) rfl (c_Le_copyFrom (d - 1) (by omega) r2 hr2 41 gk_41 s4) (fun Q => g_callV (M2 := m_Le_copyFrom) (vs := [.ref 41]) (st := []) lv_RX7_35 hr2 rfl rfl (Nat.le_of_ble_eq_true rfl) (by omega) (Nat.le_of_ble_eq_true rfl) rfl d_Pi_layBack_39) (fun s5 => ?_)
  refine S.of1 (pc2 := 43) (fun Q => g_aload_n d_Pi_layBack_42 rfl) ?_
  refine S.of1 (pc2 := 44) (fun Q => g_aload_n d_Pi_layBack_43 rfl) ?_
  refine S.of1 (pc2 := 47) (fun Q => g_geti fl_RX7_47 gc_38_4 d_Pi_layBack_44) ?_
  refine S.of1 (pc2 := 50) (fun Q => g_puti fl_RX7_44 gc_1_9 rfl rfl d_Pi_layBack_47) ?_
  refine S.gup (fun s6 => ?_)
  exact S.ret (fun Q hq => g_vret rfl d_Pi_layBack_50 hq)
def f_T_back (σ : gS) : Option (Int32 × gS) :=
  if (σ.1 38 5) = 0 then some ((-5 : Int32), σ) else (f_Pi_layBack 36 σ).bind fun s2 => some ((s2.1 37 4), s2)
theorem c_T_back (d : Nat) (hd : 4 ≤ d) (σ : gS) : C wI d m_T_back [.ref 0] σ (f_T_back σ) := by
  unfold f_T_back
  refine C.of (by decide +kernel) (Nat.le_of_ble_eq_true rfl) (L := [some (.ref 0)]) rfl ?_
  refine S.of1 (pc2 := 1) (fun Q => g_aload_n d_T_back_0 rfl) ?_
  refine S.of1 (pc2 := 4) (fun Q => g_getr fl_RX10_54 gc_0_6 d_T_back_1) ?_
  refine S.of1 (pc2 := 7) (fun Q => g_geti fl_RX10_291 gc_38_5 d_T_back_4) ?_
  refine S.br (c := (σ.1 38 5) = 0) (t := 10) (e := 13) (fun Q kt kf => g_if_ne d_T_back_7 rfl kf kt) (fun h1 => ?_) (fun h1 => ?_)
  · refine S.of1 (pc2 := 12) (fun Q => g_bipush (v := (-5 : Int32)) d_T_back_10 (by decide)) ?_
    exact S.ret (fun Q hq => g_iret rfl d_T_back_12 hq)
  · refine S.of1 (pc2 := 14) (fun Q => g_aload_n d_T_back_13 rfl) ?_
    refine S.of1 (pc2 := 17) (fun Q => g_getr fl_RX10_54 gc_0_6 d_T_back_14) ?_
    refine S.of1 (pc2 := 18) (fun Q => g_aload_n d_T_back_17 rfl) ?_
    refine S.of1 (pc2 := 21) (fun Q => g_getr fl_RX10_10 gc_0_0 d_T_back_18) ?_
    refine S.of1 (pc2 := 22) (fun Q => g_aload_n d_T_back_21 rfl) ?_
    refine S.of1 (pc2 := 25) (fun Q => g_getr fl_RX10_47 gc_0_5 d_T_back_22) ?_
    refine S.call_wV (pc3 := 28) rfl (c_Pi_layBack (d - 1) (by omega) 36 gk_36 σ) (fun Q => g_callV (M2 := m_Pi_layBack) (vs := [.ref 1, .ref 36]) (st := []) lv_RX10_295 gk_38 rfl rfl (Nat.le_of_ble_eq_true rfl) (by omega) (Nat.le_of_ble_eq_true rfl) rfl d_T_back_25) (fun s2 => ?_)
    refine S.of1 (pc2 := 29) (fun Q => g_aload_n d_T_back_28 rfl) ?_
    refine S.of1 (pc2 := 32) (fun Q => g_getr fl_RX10_47 gc_0_5 d_T_back_29) ?_
    refine S.of1 (pc2 := 35) (fun Q => g_getr fl_RX10_284 gc_36_0 d_T_back_32) ?_
    refine S.of1 (pc2 := 36) (fun Q => g_iconst (v := (4 : Int32)) d_T_back_35 (by decide)) ?_
    refine S.of1 (pc2 := 37) (fun Q => g_iald ga_37 (vp_lit rfl) d_T_back_36) ?_
    exact S.ret (fun Q hq => g_iret rfl d_T_back_37 hq)
def f_Ch_stepBack (σ : gS) : Option gS :=
  if (σ.1 31 4) ≤ 0 then some σ else gup (gpi σ 31 4 ((σ.1 31 4) - (1 : Int32))) fun s2 => if gix (s2.1 31 4) 40 then if gix (s2.1 31 4) 40 then if gix (s2.1 31 4) 40 then (f_Isl_write (s2.1 32 (s2.1 31 4).toNatClampNeg) (s2.1 33 (s2.1 31 4).toNatClampNeg) (s2.1 34 (s2.1 31 4).toNatClampNeg) s2).bind fun s6 => some s6 else none else none else none
theorem c_Ch_stepBack (d : Nat) (hd : 4 ≤ d) (σ : gS) : C wV d m_Ch_stepBack [.ref 31, .ref 1] σ (f_Ch_stepBack σ) := by
  unfold f_Ch_stepBack
  refine C.of (by decide +kernel) (Nat.le_of_ble_eq_true rfl) (L := [some (.ref 31), some (.ref 1)]) rfl ?_
  refine S.of1 (pc2 := 1) (fun Q => g_aload_n d_Ch_stepBack_0 rfl) ?_
  refine S.of1 (pc2 := 4) (fun Q => g_geti fl_RX1_22 gc_31_4 d_Ch_stepBack_1) ?_
  refine S.br (c := (σ.1 31 4) ≤ 0) (t := 48) (e := 7) (fun Q kt kf => g_if_le d_Ch_stepBack_4 rfl kt kf) (fun h1 => ?_) (fun h1 => ?_)
  · exact S.ret (fun Q hq => g_vret rfl d_Ch_stepBack_48 hq)
  · refine S.of1 (pc2 := 8) (fun Q => g_aload_n d_Ch_stepBack_7 rfl) ?_
    refine S.of1 (pc2 := 9) (fun Q => g_dup d_Ch_stepBack_8 rfl) ?_
    refine S.of1 (pc2 := 12) (fun Q => g_geti fl_RX1_22 gc_31_4 d_Ch_stepBack_9) ?_
    refine S.of1 (pc2 := 13) (fun Q => g_iconst (v := (1 : Int32)) d_Ch_stepBack_12 (by decide)) ?_
    refine S.of1 (pc2 := 14) (fun Q => g_isub d_Ch_stepBack_13) ?_
    refine S.of1 (pc2 := 17) (fun Q => g_puti fl_RX1_22 gc_31_4 rfl rfl d_Ch_stepBack_14) ?_
    refine S.gup (fun s2 => ?_)
    refine S.of1 (pc2 := 18) (fun Q => g_aload_n d_Ch_stepBack_17 rfl) ?_
    refine S.of1 (pc2 := 19) (fun Q => g_aload_n d_Ch_stepBack_18 rfl) ?_
    refine S.of1 (pc2 := 22) (fun Q => g_getr fl_RX1_9 gc_31_0 d_Ch_stepBack_19) ?_
    refine S.of1 (pc2 := 23) (fun Q => g_aload_n d_Ch_stepBack_22 rfl) ?_
    refine S.of1 (pc2 := 26) (fun Q => g_geti fl_RX1_22 gc_31_4 d_Ch_stepBack_23) ?_
    refine S.chk (fun h3 => ?_)
    refine S.of1 (pc2 := 27) (fun Q => g_iald ga_32 (gix_in h3) d_Ch_stepBack_26) ?_
    refine S.of1 (pc2 := 28) (fun Q => g_aload_n d_Ch_stepBack_27 rfl) ?_
    refine S.of1 (pc2 := 31) (fun Q => g_getr fl_RX1_13 gc_31_1 d_Ch_stepBack_28) ?_
    refine S.of1 (pc2 := 32) (fun Q => g_aload_n d_Ch_stepBack_31 rfl) ?_
    refine S.of1 (pc2 := 35) (fun Q => g_geti fl_RX1_22 gc_31_4 d_Ch_stepBack_32) ?_
    refine S.chk (fun h4 => ?_)
    refine S.of1 (pc2 := 36) (fun Q => g_iald ga_33 (gix_in h4) d_Ch_stepBack_35) ?_
    refine S.of1 (pc2 := 37) (fun Q => g_aload_n d_Ch_stepBack_36 rfl) ?_
    refine S.of1 (pc2 := 40) (fun Q => g_getr fl_RX1_16 gc_31_2 d_Ch_stepBack_37) ?_
    refine S.of1 (pc2 := 41) (fun Q => g_aload_n d_Ch_stepBack_40 rfl) ?_
    refine S.of1 (pc2 := 44) (fun Q => g_geti fl_RX1_22 gc_31_4 d_Ch_stepBack_41) ?_
    refine S.chk (fun h5 => ?_)
    refine S.of1 (pc2 := 45) (fun Q => g_iald ga_34 (gix_in h5) d_Ch_stepBack_44) ?_
    refine S.call_wV (pc3 := 48) rfl (c_Isl_write (d - 1) (by omega) (s2.1 32 (s2.1 31 4).toNatClampNeg) (s2.1 33 (s2.1 31 4).toNatClampNeg) (s2.1 34 (s2.1 31 4).toNatClampNeg) s2) (fun Q => g_callV (M2 := m_Isl_write) (vs := [.int (s2.1 32 (s2.1 31 4).toNatClampNeg), .int (s2.1 33 (s2.1 31 4).toNatClampNeg), .int (s2.1 34 (s2.1 31 4).toNatClampNeg)]) (st := []) lv_RX1_38 gk_1 rfl rfl (Nat.le_of_ble_eq_true rfl) (by omega) (Nat.le_of_ble_eq_true rfl) rfl d_Ch_stepBack_45) (fun s6 => ?_)
    exact S.ret (fun Q hq => g_vret rfl d_Ch_stepBack_48 hq)
def f_T_undo (σ : gS) : Option (Int32 × gS) :=
  if (σ.1 31 4) = 0 then some ((-5 : Int32), σ) else (f_Ch_stepBack σ).bind fun s2 => some ((s2.1 31 4), s2)
theorem c_T_undo (d : Nat) (hd : 5 ≤ d) (σ : gS) : C wI d m_T_undo [.ref 0] σ (f_T_undo σ) := by
  unfold f_T_undo
  refine C.of (by decide +kernel) (Nat.le_of_ble_eq_true rfl) (L := [some (.ref 0)]) rfl ?_
  refine S.of1 (pc2 := 1) (fun Q => g_aload_n d_T_undo_0 rfl) ?_
  refine S.of1 (pc2 := 4) (fun Q => g_getr fl_RX10_40 gc_0_4 d_T_undo_1) ?_
  refine S.of1 (pc2 := 7) (fun Q => g_geti fl_RX10_298 gc_31_4 d_T_undo_4) ?_
  refine S.br (c := (σ.1 31 4) = 0) (t := 10) (e := 13) (fun Q kt kf => g_if_ne d_T_undo_7 rfl kf kt) (fun h1 => ?_) (fun h1 => ?_)
  · refine S.of1 (pc2 := 12) (fun Q => g_bipush (v := (-5 : Int32)) d_T_undo_10 (by decide)) ?_
    exact S.ret (fun Q hq => g_iret rfl d_T_undo_12 hq)
  · refine S.of1 (pc2 := 14) (fun Q => g_aload_n d_T_undo_13 rfl) ?_
    refine S.of1 (pc2 := 17) (fun Q => g_getr fl_RX10_40 gc_0_4 d_T_undo_14) ?_
    refine S.of1 (pc2 := 18) (fun Q => g_aload_n d_T_undo_17 rfl) ?_
    refine S.of1 (pc2 := 21) (fun Q => g_getr fl_RX10_10 gc_0_0 d_T_undo_18) ?_
    refine S.call_wV (pc3 := 24) rfl (c_Ch_stepBack (d - 1) (by omega) σ) (fun Q => g_callV (M2 := m_Ch_stepBack) (vs := [.ref 1]) (st := []) lv_RX10_301 gk_31 rfl rfl (Nat.le_of_ble_eq_true rfl) (by omega) (Nat.le_of_ble_eq_true rfl) rfl d_T_undo_21) (fun s2 => ?_)
    refine S.of1 (pc2 := 25) (fun Q => g_aload_n d_T_undo_24 rfl) ?_
    refine S.of1 (pc2 := 28) (fun Q => g_getr fl_RX10_40 gc_0_4 d_T_undo_25) ?_
    refine S.of1 (pc2 := 31) (fun Q => g_geti fl_RX10_298 gc_31_4 d_T_undo_28) ?_
    exact S.ret (fun Q hq => g_iret rfl d_T_undo_31 hq)
def f_Ch_stepOn (σ : gS) : Option gS :=
  if (σ.1 31 5) ≤ (σ.1 31 4) then some σ else if gix (σ.1 31 4) 40 then if gix (σ.1 31 4) 40 then if gix (σ.1 31 4) 40 then (f_Isl_write (σ.1 32 (σ.1 31 4).toNatClampNeg) (σ.1 33 (σ.1 31 4).toNatClampNeg) (σ.1 35 (σ.1 31 4).toNatClampNeg) σ).bind fun s5 => gup (gpi s5 31 4 ((s5.1 31 4) + (1 : Int32))) fun s6 => some s6 else none else none else none
theorem c_Ch_stepOn (d : Nat) (hd : 4 ≤ d) (σ : gS) : C wV d m_Ch_stepOn [.ref 31, .ref 1] σ (f_Ch_stepOn σ) := by
  unfold f_Ch_stepOn
  refine C.of (by decide +kernel) (Nat.le_of_ble_eq_true rfl) (L := [some (.ref 31), some (.ref 1)]) rfl ?_
  refine S.of1 (pc2 := 1) (fun Q => g_aload_n d_Ch_stepOn_0 rfl) ?_
  refine S.of1 (pc2 := 4) (fun Q => g_geti fl_RX1_22 gc_31_4 d_Ch_stepOn_1) ?_
  refine S.of1 (pc2 := 5) (fun Q => g_aload_n d_Ch_stepOn_4 rfl) ?_
  refine S.of1 (pc2 := 8) (fun Q => g_geti fl_RX1_29 gc_31_5 d_Ch_stepOn_5) ?_
  refine S.br (c := (σ.1 31 5) ≤ (σ.1 31 4)) (t := 52) (e := 11) (fun Q kt kf => g_icmp_ge d_Ch_stepOn_8 rfl kt kf) (fun h1 => ?_) (fun h1 => ?_)
  · exact S.ret (fun Q hq => g_vret rfl d_Ch_stepOn_52 hq)
  · refine S.of1 (pc2 := 12) (fun Q => g_aload_n d_Ch_stepOn_11 rfl) ?_
    refine S.of1 (pc2 := 13) (fun Q => g_aload_n d_Ch_stepOn_12 rfl) ?_
    refine S.of1 (pc2 := 16) (fun Q => g_getr fl_RX1_9 gc_31_0 d_Ch_stepOn_13) ?_
    refine S.of1 (pc2 := 17) (fun Q => g_aload_n d_Ch_stepOn_16 rfl) ?_
    refine S.of1 (pc2 := 20) (fun Q => g_geti fl_RX1_22 gc_31_4 d_Ch_stepOn_17) ?_
    refine S.chk (fun h2 => ?_)
    refine S.of1 (pc2 := 21) (fun Q => g_iald ga_32 (gix_in h2) d_Ch_stepOn_20) ?_
    refine S.of1 (pc2 := 22) (fun Q => g_aload_n d_Ch_stepOn_21 rfl) ?_
    refine S.of1 (pc2 := 25) (fun Q => g_getr fl_RX1_13 gc_31_1 d_Ch_stepOn_22) ?_
    refine S.of1 (pc2 := 26) (fun Q => g_aload_n d_Ch_stepOn_25 rfl) ?_
    refine S.of1 (pc2 := 29) (fun Q => g_geti fl_RX1_22 gc_31_4 d_Ch_stepOn_26) ?_
    refine S.chk (fun h3 => ?_)
    refine S.of1 (pc2 := 30) (fun Q => g_iald ga_33 (gix_in h3) d_Ch_stepOn_29) ?_
    refine S.of1 (pc2 := 31) (fun Q => g_aload_n d_Ch_stepOn_30 rfl) ?_
    refine S.of1 (pc2 := 34) (fun Q => g_getr fl_RX1_19 gc_31_3 d_Ch_stepOn_31) ?_
    refine S.of1 (pc2 := 35) (fun Q => g_aload_n d_Ch_stepOn_34 rfl) ?_
    refine S.of1 (pc2 := 38) (fun Q => g_geti fl_RX1_22 gc_31_4 d_Ch_stepOn_35) ?_
    refine S.chk (fun h4 => ?_)
    refine S.of1 (pc2 := 39) (fun Q => g_iald ga_35 (gix_in h4) d_Ch_stepOn_38) ?_
    refine S.call_wV (pc3 := 42) rfl (c_Isl_write (d - 1) (by omega) (σ.1 32 (σ.1 31 4).toNatClampNeg) (σ.1 33 (σ.1 31 4).toNatClampNeg) (σ.1 35 (σ.1 31 4).toNatClampNeg) σ) (fun Q => g_callV (M2 := m_Isl_write) (vs := [.int (σ.1 32 (σ.1 31 4).toNatClampNeg), .int (σ.1 33 (σ.1 31 4).toNatClampNeg), .int (σ.1 35 (σ.1 31 4).toNatClampNeg)]) (st := []) lv_RX1_38 gk_1 rfl rfl (Nat.le_of_ble_eq_true rfl) (by omega) (Nat.le_of_ble_eq_true rfl) rfl d_Ch_stepOn_39) (fun s5 => ?_)
    refine S.of1 (pc2 := 43) (fun Q => g_aload_n d_Ch_stepOn_42 rfl) ?_
    refine S.of1 (pc2 := 44) (fun Q => g_dup d_Ch_stepOn_43 rfl) ?_
    refine S.of1 (pc2 := 47) (fun Q => g_geti fl_RX1_22 gc_31_4 d_Ch_stepOn_44) ?_
    refine S.of1 (pc2 := 48) (fun Q => g_iconst (v := (1 : Int32)) d_Ch_stepOn_47 (by decide)) ?_
    refine S.of1 (pc2 := 49) (fun Q => g_iadd d_Ch_stepOn_48) ?_
    refine S.of1 (pc2 := 52) (fun Q => g_puti fl_RX1_22 gc_31_4 rfl rfl d_Ch_stepOn_49) ?_
    refine S.gup (fun s6 => ?_)
    exact S.ret (fun Q hq => g_vret rfl d_Ch_stepOn_52 hq)
def f_T_redo (σ : gS) : Option (Int32 × gS) :=
  if (σ.1 31 4) = (σ.1 31 5) then some ((-5 : Int32), σ) else (f_Ch_stepOn σ).bind fun s2 => some (((s2.1 31 5) - (s2.1 31 4)), s2)
theorem c_T_redo (d : Nat) (hd : 5 ≤ d) (σ : gS) : C wI d m_T_redo [.ref 0] σ (f_T_redo σ) := by
  unfold f_T_redo
  refine C.of (by decide +kernel) (Nat.le_of_ble_eq_true rfl) (L := [some (.ref 0)]) rfl ?_
  refine S.of1 (pc2 := 1) (fun Q => g_aload_n d_T_redo_0 rfl) ?_
  refine S.of1 (pc2 := 4) (fun Q => g_getr fl_RX10_40 gc_0_4 d_T_redo_1) ?_
  refine S.of1 (pc2 := 7) (fun Q => g_geti fl_RX10_298 gc_31_4 d_T_redo_4) ?_
  refine S.of1 (pc2 := 8) (fun Q => g_aload_n d_T_redo_7 rfl) ?_
  refine S.of1 (pc2 := 11) (fun Q => g_getr fl_RX10_40 gc_0_4 d_T_redo_8) ?_
  refine S.of1 (pc2 := 14) (fun Q => g_geti fl_RX10_304 gc_31_5 d_T_redo_11) ?_
  refine S.br (c := (σ.1 31 4) = (σ.1 31 5)) (t := 17) (e := 20) (fun Q kt kf => g_icmp_ne d_T_redo_14 rfl kf kt) (fun h1 => ?_) (fun h1 => ?_)
  · refine S.of1 (pc2 := 19) (fun Q => g_bipush (v := (-5 : Int32)) d_T_redo_17 (by decide)) ?_
    exact S.ret (fun Q hq => g_iret rfl d_T_redo_19 hq)
  · refine S.of1 (pc2 := 21) (fun Q => g_aload_n d_T_redo_20 rfl) ?_
    refine S.of1 (pc2 := 24) (fun Q => g_getr fl_RX10_40 gc_0_4 d_T_redo_21) ?_
    refine S.of1 (pc2 := 25) (fun Q => g_aload_n d_T_redo_24 rfl) ?_
    refine S.of1 (pc2 := 28) (fun Q => g_getr fl_RX10_10 gc_0_0 d_T_redo_25) ?_
    refine S.call_wV (pc3 := 31) rfl (c_Ch_stepOn (d - 1) (by omega) σ) (fun Q => g_callV (M2 := m_Ch_stepOn) (vs := [.ref 1]) (st := []) lv_RX10_307 gk_31 rfl rfl (Nat.le_of_ble_eq_true rfl) (by omega) (Nat.le_of_ble_eq_true rfl) rfl d_T_redo_28) (fun s2 => ?_)
    refine S.of1 (pc2 := 32) (fun Q => g_aload_n d_T_redo_31 rfl) ?_
    refine S.of1 (pc2 := 35) (fun Q => g_getr fl_RX10_40 gc_0_4 d_T_redo_32) ?_
    refine S.of1 (pc2 := 38) (fun Q => g_geti fl_RX10_304 gc_31_5 d_T_redo_35) ?_
    refine S.of1 (pc2 := 39) (fun Q => g_aload_n d_T_redo_38 rfl) ?_
    refine S.of1 (pc2 := 42) (fun Q => g_getr fl_RX10_40 gc_0_4 d_T_redo_39) ?_
    refine S.of1 (pc2 := 45) (fun Q => g_geti fl_RX10_298 gc_31_4 d_T_redo_42) ?_
    refine S.of1 (pc2 := 46) (fun Q => g_isub d_T_redo_45) ?_
    exact S.ret (fun Q hq => g_iret rfl d_T_redo_46 hq)
def f_Wo_make (v1 : Int32) (σ : gS) : Option (Int32 × gS) :=
  if (σ.1 43 2) < (50 : Int32) then if gix (σ.1 43 2) 50 then gup (gpi σ 44 (σ.1 43 2).toNatClampNeg v1) fun s3 => gup (gpi s3 43 2 ((s3.1 43 2) + (1 : Int32))) fun s4 => some (((s4.1 43 2) - (1 : Int32)), s4) else none else some ((-3 : Int32), σ)
theorem c_Wo_make (d : Nat) (hd : 1 ≤ d) (v1 : Int32) (σ : gS) : C wI d m_Wo_make [.ref 43, .int v1] σ (f_Wo_make v1 σ) := by
  unfold f_Wo_make
  refine C.of (by decide +kernel) (Nat.le_of_ble_eq_true rfl) (L := [some (.ref 43), some (.int v1)]) rfl ?_
  refine S.of1 (pc2 := 1) (fun Q => g_aload_n d_Wo_make_0 rfl) ?_
  refine S.of1 (pc2 := 4) (fun Q => g_geti fl_RX9_18 gc_43_2 d_Wo_make_1) ?_
  refine S.of1 (pc2 := 6) (fun Q => g_bipush (v := (50 : Int32)) d_Wo_make_4 (by decide)) ?_
  refine S.br (c := (σ.1 43 2) < (50 : Int32)) (t := 12) (e := 9) (fun Q kt kf => g_icmp_lt d_Wo_make_6 rfl kt kf) (fun h1 => ?_) (fun h1 => ?_)
  · refine S.of1 (pc2 := 13) (fun Q => g_aload_n d_Wo_make_12 rfl) ?_
    refine S.of1 (pc2 := 16) (fun Q => g_getr fl_RX9_11 gc_43_0 d_Wo_make_13) ?_
    refine S.of1 (pc2 := 17) (fun Q => g_aload_n d_Wo_make_16 rfl) ?_
    refine S.of1 (pc2 := 20) (fun Q => g_geti fl_RX9_18 gc_43_2 d_Wo_make_17) ?_
    refine S.of1 (pc2 := 21) (fun Q => g_iload_n d_Wo_make_20 rfl) ?_
    refine S.chk (fun h2 => ?_)
    refine S.of1 (pc2 := 22) (fun Q => g_iast ga_44 (gix_in h2) d_Wo_make_21) ?_
    refine S.gup (fun s3 => ?_)
    refine S.of1 (pc2 := 23) (fun Q => g_aload_n d_Wo_make_22 rfl) ?_
    refine S.of1 (pc2 := 24) (fun Q => g_dup d_Wo_make_23 rfl) ?_
    refine S.of1 (pc2 := 27) (fun Q => g_geti fl_RX9_18 gc_43_2 d_Wo_make_24) ?_
    refine S.of1 (pc2 := 28) (fun Q => g_iconst (v := (1 : Int32)) d_Wo_make_27 (by decide)) ?_
    refine S.of1 (pc2 := 29) (fun Q => g_iadd d_Wo_make_28) ?_
    refine S.of1 (pc2 := 32) (fun Q => g_puti fl_RX9_18 gc_43_2 rfl rfl d_Wo_make_29) ?_
    refine S.gup (fun s4 => ?_)
    refine S.of1 (pc2 := 33) (fun Q => g_aload_n d_Wo_make_32 rfl) ?_
    refine S.of1 (pc2 := 36) (fun Q => g_geti fl_RX9_18 gc_43_2 d_Wo_make_33) ?_
    refine S.of1 (pc2 := 37) (fun Q => g_iconst (v := (1 : Int32)) d_Wo_make_36 (by decide)) ?_
    refine S.of1 (pc2 := 38) (fun Q => g_isub d_Wo_make_37) ?_
    exact S.ret (fun Q hq => g_iret rfl d_Wo_make_38 hq)
  · refine S.of1 (pc2 := 11) (fun Q => g_bipush (v := (-3 : Int32)) d_Wo_make_9 (by decide)) ?_
    exact S.ret (fun Q hq => g_iret rfl d_Wo_make_11 hq)
def f_T_body (v1 : Int32) (σ : gS) : Option (Int32 × gS) :=
  (f_T_within v1 (8 : Int32)).bind fun q1 => if q1 = 0 then some ((-1 : Int32), σ) else (f_Wo_make v1 σ).bind fun q3 => some (q3.1, q3.2)
theorem c_T_body (d : Nat) (hd : 2 ≤ d) (v1 : Int32) (σ : gS) : C wI d m_T_body [.ref 0, .int v1] σ (f_T_body v1 σ) := by
  unfold f_T_body
  refine C.of (by decide +kernel) (Nat.le_of_ble_eq_true rfl) (L := [some (.ref 0), some (.int v1)]) rfl ?_
  refine S.of1 (pc2 := 1) (fun Q => g_iload_n d_T_body_0 rfl) ?_
  refine S.of1 (pc2 := 3) (fun Q => g_bipush (v := (8 : Int32)) d_T_body_1 (by decide)) ?_
  refine S.call_rI (pc3 := 6) rfl (c_T_within (d - 1) (by omega) v1 (8 : Int32) σ) (fun Q => g_callS (M2 := m_T_within) (vs := [.int v1, .int (8 : Int32)]) (st := []) ls_RX10_72 rfl (Nat.le_of_ble_eq_true rfl) (by omega) (Nat.le_of_ble_eq_true rfl) rfl d_T_body_3) (fun q1 => ?_)
  refine S.br (c := q1 = 0) (t := 20) (e := 9) (fun Q kt kf => g_if_eq d_T_body_6 rfl kt kf) (fun h2 => ?_) (fun h2 => ?_)
  · refine S.of1 (pc2 := 21) (fun Q => g_iconst (v := (-1 : Int32)) d_T_body_20 (by decide)) ?_
    exact S.ret (fun Q hq => g_iret rfl d_T_body_21 hq)
  · refine S.of1 (pc2 := 10) (fun Q => g_aload_n d_T_body_9 rfl) ?_
    refine S.of1 (pc2 := 13) (fun Q => g_getr fl_RX10_61 gc_0_7 d_T_body_10) ?_
    refine S.of1 (pc2 := 14) (fun Q => g_iload_n d_T_body_13 rfl) ?_
    refine S.call_wI (pc3 := 17) rfl (c_Wo_make (d - 1) (by omega) v1 σ) (fun Q => g_callV (M2 := m_Wo_make) (vs := [.int v1]) (st := []) lv_RX10_310 gk_43 rfl rfl (Nat.le_of_ble_eq_true rfl) (by omega) (Nat.le_of_ble_eq_true rfl) rfl d_T_body_14) (fun q3 => ?_)
    refine S.of1 (pc2 := 21) (fun Q => g_goto d_T_body_17 rfl) ?_
    exact S.ret (fun Q hq => g_iret rfl d_T_body_21 hq)
def f_Wo_note_j19 (σ : gS) : Option gS :=
  gup (gpi σ 43 3 ((σ.1 43 3) + (1 : Int32))) fun s2 => some s2
theorem s_Wo_note_j19 (d : Nat) (hd : 1 ≤ d) (σ : gS) : S wV m_Wo_note d 19 [some (.ref 43), none] [] σ (f_Wo_note_j19 σ) := by
  unfold f_Wo_note_j19
  refine S.of1 (pc2 := 20) (fun Q => g_aload_n d_Wo_note_19 rfl) ?_
  refine S.of1 (pc2 := 21) (fun Q => g_dup d_Wo_note_20 rfl) ?_
  refine S.of1 (pc2 := 24) (fun Q => g_geti fl_RX9_29 gc_43_3 d_Wo_note_21) ?_
  refine S.of1 (pc2 := 25) (fun Q => g_iconst (v := (1 : Int32)) d_Wo_note_24 (by decide)) ?_
  refine S.of1 (pc2 := 26) (fun Q => g_iadd d_Wo_note_25) ?_
  refine S.of1 (pc2 := 29) (fun Q => g_puti fl_RX9_29 gc_43_3 rfl rfl d_Wo_note_26) ?_
  refine S.gup (fun s2 => ?_)
  exact S.ret (fun Q hq => g_vret rfl d_Wo_note_29 hq)
def f_Wo_note (v1 : Int32) (σ : gS) : Option gS :=
  if (24 : Int32) ≤ (σ.1 43 3) then f_Wo_note_j19 σ else if gix (σ.1 43 3) 24 then gup (gpi σ 45 (σ.1 43 3).toNatClampNeg v1) fun s4 => f_Wo_note_j19 s4 else none
theorem c_Wo_note (d : Nat) (hd : 1 ≤ d) (v1 : Int32) (σ : gS) : C wV d m_Wo_note [.ref 43, .int v1] σ (f_Wo_note v1 σ) := by
  unfold f_Wo_note
  refine C.of (by decide +kernel) (Nat.le_of_ble_eq_true rfl) (L := [some (.ref 43), some (.int v1)]) rfl ?_
  refine S.of1 (pc2 := 1) (fun Q => g_aload_n d_Wo_note_0 rfl) ?_
  refine S.of1 (pc2 := 4) (fun Q => g_geti fl_RX9_29 gc_43_3 d_Wo_note_1) ?_
  refine S.of1 (pc2 := 6) (fun Q => g_bipush (v := (24 : Int32)) d_Wo_note_4 (by decide)) ?_
  refine S.br (c := (24 : Int32) ≤ (σ.1 43 3)) (t := 19) (e := 9) (fun Q kt kf => g_icmp_ge d_Wo_note_6 rfl kt kf) (fun h1 => ?_) (fun h1 => ?_)
  · exact S.wk (L2 := [some (.ref 43), none]) (And.intro rfl trivial) (s_Wo_note_j19 d hd σ)
  · refine S.of1 (pc2 := 10) (fun Q => g_aload_n d_Wo_note_9 rfl) ?_
    refine S.of1 (pc2 := 13) (fun Q => g_getr fl_RX9_15 gc_43_1 d_Wo_note_10) ?_
    refine S.of1 (pc2 := 14) (fun Q => g_aload_n d_Wo_note_13 rfl) ?_
    refine S.of1 (pc2 := 17) (fun Q => g_geti fl_RX9_29 gc_43_3 d_Wo_note_14) ?_
    refine S.of1 (pc2 := 18) (fun Q => g_iload_n d_Wo_note_17 rfl) ?_
    refine S.chk (fun h3 => ?_)
    refine S.of1 (pc2 := 19) (fun Q => g_iast ga_45 (gix_in h3) d_Wo_note_18) ?_
    refine S.gup (fun s4 => ?_)
    exact S.wk (L2 := [some (.ref 43), none]) (And.intro rfl trivial) (s_Wo_note_j19 d hd s4)
def f_Wo_owner_L4 (σ : gS) : Nat → Int32 → Int32 → Int32 → Option Int32
  | 0, _, _, _ => none
  | n + 1, v1, v2, v3 =>
  if (8 : Int32) ≤ v3 then some v2 else (f_T_within v2 (8 : Int32)).bind fun q2 => if q2 = 0 then some v2 else if gix ((v2 * (4 : Int32)) + v1) 32 then if (tb_OWN.getD ((v2 * (4 : Int32)) + v1).toNatClampNeg 0) = 0 then if gix v2 8 then glt (tb_ABOVE.getD v2.toNatClampNeg 0) fun x7 => (fun v1 v2 v3 => f_Wo_owner_L4 σ n v1 v2 v3) v1 x7 (v3 + (1 : Int32)) else none else some v2 else none
theorem s_Wo_owner_L4 (d : Nat) (hd : 2 ≤ d) (σ : gS) : ∀ (n : Nat) (v1 : Int32) (v2 : Int32) (v3 : Int32), S (rI σ) m_Wo_owner d 4 [none, some (.int v1), some (.int v2), some (.int v3)] [] σ (f_Wo_owner_L4 σ n v1 v2 v3) := by
  intro n
  induction n with
  | zero =>
    intros
    unfold f_Wo_owner_L4
    exact S.no
  | succ n ih =>
    intro v1 v2 v3
    unfold f_Wo_owner_L4
    refine S.of1 (pc2 := 5) (fun Q => g_iload_n d_Wo_owner_4 rfl) ?_
    refine S.of1 (pc2 := 7) (fun Q => g_bipush (v := (8 : Int32)) d_Wo_owner_5 (by decide)) ?_
    refine S.br (c := (8 : Int32) ≤ v3) (t := 43) (e := 10) (fun Q kt kf => g_icmp_ge d_Wo_owner_7 rfl kt kf) (fun h1 => ?_) (fun h1 => ?_)
    · refine S.of1 (pc2 := 44) (fun Q => g_iload_n d_Wo_owner_43 rfl) ?_
      exact S.ret (fun Q hq => g_iret rfl d_Wo_owner_44 hq)
    · refine S.of1 (pc2 := 11) (fun Q => g_iload_n d_Wo_owner_10 rfl) ?_
      refine S.of1 (pc2 := 13) (fun Q => g_bipush (v := (8 : Int32)) d_Wo_owner_11 (by decide)) ?_
      refine S.call_rI (pc3 := 16) rfl (c_T_within (d - 1) (by omega) v2 (8 : Int32) σ) (fun Q => g_callSN (M2 := m_T_within) (vs := [.int v2, .int (8 : Int32)]) (st := []) ln_RX9_22 rfl (Nat.le_of_ble_eq_true rfl) (by omega) (Nat.le_of_ble_eq_true rfl) rfl d_Wo_owner_13) (fun q2 => ?_)
      refine S.br (c := q2 = 0) (t := 43) (e := 19) (fun Q kt kf => g_if_eq d_Wo_owner_16 rfl kt kf) (fun h3 => ?_) (fun h3 => ?_)
      · refine S.of1 (pc2 := 44) (fun Q => g_iload_n d_Wo_owner_43 rfl) ?_
        exact S.ret (fun Q hq => g_iret rfl d_Wo_owner_44 hq)
      · refine S.of1 (pc2 := 22) (fun Q => g_gets q_OWN (List.mem_of_getElem? (i := 3) rfl) w_1069 d_Wo_owner_19) ?_
        refine S.of1 (pc2 := 23) (fun Q => g_iload_n d_Wo_owner_22 rfl) ?_
        refine S.of1 (pc2 := 24) (fun Q => g_iconst (v := (4 : Int32)) d_Wo_owner_23 (by decide)) ?_
        refine S.of1 (pc2 := 25) (fun Q => g_imul d_Wo_owner_24) ?_
        refine S.of1 (pc2 := 26) (fun Q => g_iload_n d_Wo_owner_25 rfl) ?_
        refine S.of1 (pc2 := 27) (fun Q => g_iadd d_Wo_owner_26) ?_
        refine S.chk (fun h4 => ?_)
        refine S.of1 (pc2 := 28) (fun Q => g_tald q_OWN (List.mem_of_getElem? (i := 3) rfl) (gix_in h4) d_Wo_owner_27) ?_
        refine S.br (c := (tb_OWN.getD ((v2 * (4 : Int32)) + v1).toNatClampNeg 0) = 0) (t := 31) (e := 43) (fun Q kt kf => g_if_ne d_Wo_owner_28 rfl kf kt) (fun h5 => ?_) (fun h5 => ?_)
        · refine S.of1 (pc2 := 34) (fun Q => g_gets q_ABOVE (List.mem_of_getElem? (i := 2) rfl) w_1071 d_Wo_owner_31) ?_
          refine S.of1 (pc2 := 35) (fun Q => g_iload_n d_Wo_owner_34 rfl) ?_
          refine S.chk (fun h6 => ?_)
          refine S.of1 (pc2 := 36) (fun Q => g_tald q_ABOVE (List.mem_of_getElem? (i := 2) rfl) (gix_in h6) d_Wo_owner_35) ?_
          refine S.of1 (pc2 := 37) (L2 := [none, some (.int v1), some (.int (tb_ABOVE.getD v2.toNatClampNeg 0)), some (.int v3)]) (fun Q => g_istore_n d_Wo_owner_36 (Nat.le_of_ble_eq_true rfl) rfl) ?_
          refine S.glt (x := (tb_ABOVE.getD v2.toNatClampNeg 0)) (Lf := fun y => [none, some (.int v1), some (.int y), some (.int v3)]) (fun x7 => ?_)
          refine S.of1 (pc2 := 40) (L2 := [none, some (.int v1), some (.int x7), some (.int (v3 + (1 : Int32)))]) (fun Q => g_iinc d_Wo_owner_37 rfl (congrArg (fun z => v3 + z) (by decide)) (Nat.le_of_ble_eq_true rfl) rfl) ?_
          refine S.of1 (pc2 := 4) (fun Q => g_goto d_Wo_owner_40 rfl) ?_
          exact S.wk (L2 := [none, some (.int v1), some (.int x7), some (.int (v3 + (1 : Int32)))]) (And.intro rfl (And.intro rfl (And.intro rfl trivial))) (ih v1 x7 (v3 + (1 : Int32)))
        · refine S.of1 (pc2 := 44) (fun Q => g_iload_n d_Wo_owner_43 rfl) ?_
          exact S.ret (fun Q hq => g_iret rfl d_Wo_owner_44 hq)
def f_Wo_owner (v0 : Int32) (v1 : Int32) (σ : gS) : Option Int32 :=
  f_Wo_owner_L4 σ gfu v1 v0 (0 : Int32)
theorem c_Wo_owner (d : Nat) (hd : 2 ≤ d) (v0 : Int32) (v1 : Int32) (σ : gS) : C (rI σ) d m_Wo_owner [.int v0, .int v1] σ (f_Wo_owner v0 v1 σ) := by
  unfold f_Wo_owner
  refine C.of (by decide +kernel) (Nat.le_of_ble_eq_true rfl) (L := [some (.int v0), some (.int v1), none, none]) rfl ?_
  refine S.of1 (pc2 := 1) (fun Q => g_iload_n d_Wo_owner_0 rfl) ?_
  refine S.of1 (pc2 := 2) (L2 := [some (.int v0), some (.int v1), some (.int v0), none]) (fun Q => g_istore_n d_Wo_owner_1 (Nat.le_of_ble_eq_true rfl) rfl) ?_
  refine S.of1 (pc2 := 3) (fun Q => g_iconst (v := (0 : Int32)) d_Wo_owner_2 (by decide)) ?_
  refine S.of1 (pc2 := 4) (L2 := [some (.int v0), some (.int v1), some (.int v0), some (.int (0 : Int32))]) (fun Q => g_istore_n d_Wo_owner_3 (Nat.le_of_ble_eq_true rfl) rfl) ?_
  exact S.wk (L2 := [none, some (.int v1), some (.int v0), some (.int (0 : Int32))]) (And.intro rfl (And.intro rfl (And.intro rfl trivial))) (s_Wo_owner_L4 d hd σ gfu v1 v0 (0 : Int32))
def fo_Wo_run (krun : Int32 → Int32 → Int32 → Int32 → gS → Option (Int32 × gS)) (v1 : Int32) (v2 : Int32) (v3 : Int32) (v4 : Int32) (σ : gS) : Option (Int32 × gS) :=
  (f_Wo_owner v1 v2 σ).bind fun q1 => (f_T_within q1 (8 : Int32)).bind fun q2 => if q2 = 0 then some ((0 : Int32), σ) else if v4 ≤ (30 : Int32) then if gix ((q1 * (4 : Int32)) + v2) 32 then glt (tb_OWN.getD ((q1 * (4 : Int32)) + v2).toNatClampNeg 0) fun x6 => if gix q1 8 then glt (tb_ABOVE.getD q1.toNatClampNeg 0) fun x8 => if gix (σ.1 43 4) 50 then glt (σ.1 44 (σ.1 43 4).toNatClampNeg) fun x10 => glt (v4 + (1 : Int32)) fun x11 => (f_Wo_note x6 σ).bind fun s12 => if x6 = (1 : Int32) then some ((v3 + (s12.1 43 4)), s12) else if x6 = (2 : Int32) then (krun x10 (1 : Int32) v3 x11 s12).bind fun q15 => (krun x10 (2 : Int32) (1 : Int32) x11 q15.2).bind fun q16 => some ((q15.1 - q16.1), q16.2) else if x6 = (10 : Int32) then (krun x10 (0 : Int32) v3 x11 s12).bind fun q18 => some ((q18.1 * (2 : Int32)), q18.2) else if x6 = (11 : Int32) then some ((v3 ^^^ (s12.1 43 4)), s12) else if x6 = (20 : Int32) then (krun x8 (0 : Int32) v3 x11 s12).bind fun q21 => some ((q21.1 + (3 : Int32)), q21.2) else if x6 = (30 : Int32) then (krun x8 (1 : Int32) v3 x11 s12).bind fun q23 => some ((-q23.1), q23.2) else if x6 = (40 : Int32) then (krun x8 (2 : Int32) v3 x11 s12).bind fun q25 => some ((q25.1 * (3 : Int32)), q25.2) else if x6 = (41 : Int32) then (krun x8 (1 : Int32) (v3 + (1 : Int32)) x11 s12).bind fun q27 => some (q27.1, q27.2) else if x6 = (50 : Int32) then (krun x8 (2 : Int32) v3 x11 s12).bind fun q29 => (krun x10 (0 : Int32) (2 : Int32) x11 q29.2).bind fun q30 => some ((q29.1 - q30.1), q30.2) else if x6 = (60 : Int32) then (krun x8 (3 : Int32) v3 x11 s12).bind fun q32 => some ((q32.1 ^^^ (5 : Int32)), q32.2) else if x6 = (70 : Int32) then (krun x8 (0 : Int32) v3 x11 s12).bind fun q34 => some ((q34.1 * (2 : Int32)), q34.2) else if x6 = (80 : Int32) then (krun x8 (1 : Int32) v3 x11 s12).bind fun q36 => (krun x10 (2 : Int32) (2 : Int32) x11 q36.2).bind fun q37 => some ((q36.1 + q37.1), q37.2) else if x6 = (81 : Int32) then (krun x8 (3 : Int32) v3 x11 s12).bind fun q39 => some ((q39.1 - (1 : Int32)), q39.2) else some ((0 : Int32), s12) else none else none else none else some ((0 : Int32), σ)
theorem co_Wo_run (D : Nat) (hD : 2 ≤ D) (krun : Int32 → Int32 → Int32 → Int32 → gS → Option (Int32 × gS)) (hkrun : ∀ (d : Nat) (_ : D ≤ d) (v1 : Int32) (v2 : Int32) (v3 : Int32) (v4 : Int32) (σ : gS), C wI d m_Wo_run [.ref 43, .int v1, .int v2, .int v3, .int v4] σ (krun v1 v2 v3 v4 σ)) (d : Nat) (hd : D + 1 ≤ d) (v1 : Int32) (v2 : Int32) (v3 : Int32) (v4 : Int32) (σ : gS) : C wI d m_Wo_run [.ref 43, .int v1, .int v2, .int v3, .int v4] σ (fo_Wo_run krun v1 v2 v3 v4 σ) := by
  unfold fo_Wo_run
  refine C.of (by decide +kernel) (Nat.le_of_ble_eq_true rfl) (L := [some (.ref 43), some (.int v1), some (.int v2), some (.int v3), some (.int v4), none, none, none, none, none]) rfl ?_
  refine S.of1 (pc2 := 1) (fun Q => g_iload_n d_Wo_run_0 rfl) ?_
  refine S.of1 (pc2 := 2) (fun Q => g_iload_n d_Wo_run_1 rfl) ?_
  refine S.call_rI (pc3 := 5) rfl (c_Wo_owner (d - 1) (by omega) v1 v2 σ) (fun Q => g_callS (M2 := m_Wo_owner) (vs := [.int v1, .int v2]) (st := []) ls_RX9_42 rfl (Nat.le_of_ble_eq_true rfl) (by omega) (Nat.le_of_ble_eq_true rfl) rfl d_Wo_run_2) (fun q1 => ?_)
  refine S.of1 (pc2 := 7) (L2 := [some (.ref 43), some (.int v1), some (.int v2), some (.int v3), some (.int v4), some (.int q1), none, none, none, none]) (fun Q => g_istore d_Wo_run_5 (Nat.le_of_ble_eq_true rfl) rfl) ?_
  refine S.of1 (pc2 := 9) (fun Q => g_iload d_Wo_run_7 rfl) ?_
  refine S.of1 (pc2 := 11) (fun Q => g_bipush (v := (8 : Int32)) d_Wo_run_9 (by decide)) ?_
  refine S.call_rI (pc3 := 14) rfl (c_T_within (d - 1) (by omega) q1 (8 : Int32) σ) (fun Q => g_callSN (M2 := m_T_within) (vs := [.int q1, .int (8 : Int32)]) (st := []) ln_RX9_22 rfl (Nat.le_of_ble_eq_true rfl) (by omega) (Nat.le_of_ble_eq_true rfl) rfl d_Wo_run_11) (fun q2 => ?_)
  refine S.br (c := q2 = 0) (t := 24) (e := 17) (fun Q kt kf => g_if_eq d_Wo_run_14 rfl kt kf) (fun h3 => ?_) (fun h3 => ?_)
  · refine S.of1 (pc2 := 25) (fun Q => g_iconst (v := (0 : Int32)) d_Wo_run_24 (by decide)) ?_
    exact S.ret (fun Q hq => g_iret rfl d_Wo_run_25 hq)
  · refine S.of1 (pc2 := 19) (fun Q => g_iload d_Wo_run_17 rfl) ?_
    refine S.of1 (pc2 := 21) (fun Q => g_bipush (v := (30 : Int32)) d_Wo_run_19 (by decide)) ?_
    refine S.br (c := v4 ≤ (30 : Int32)) (t := 26) (e := 24) (fun Q kt kf => g_icmp_le d_Wo_run_21 rfl kt kf) (fun h4 => ?_) (fun h4 => ?_)
    · refine S.of1 (pc2 := 29) (fun Q => g_gets q_OWN (List.mem_of_getElem? (i := 3) rfl) w_1069 d_Wo_run_26) ?_
      refine S.of1 (pc2 := 31) (fun Q => g_iload d_Wo_run_29 rfl) ?_
      refine S.of1 (pc2 := 32) (fun Q => g_iconst (v := (4 : Int32)) d_Wo_run_31 (by decide)) ?_
      refine S.of1 (pc2 := 33) (fun Q => g_imul d_Wo_run_32) ?_
      refine S.of1 (pc2 := 34) (fun Q => g_iload_n d_Wo_run_33 rfl) ?_
      refine S.of1 (pc2 := 35) (fun Q => g_iadd d_Wo_run_34) ?_
      refine S.chk (fun h5 => ?_)
      refine S.of1 (pc2 := 36) (fun Q => g_tald q_OWN (List.mem_of_getElem? (i := 3) rfl) (gix_in h5) d_Wo_run_35) ?_
      refine S.of1 (pc2 := 38) (L2 := [some (.ref 43), some (.int v1), some (.int v2), some (.int v3), some (.int v4), some (.int q1), some (.int (tb_OWN.getD ((q1 * (4 : Int32)) + v2).toNatClampNeg 0)), none, none, none]) (fun Q => g_istore d_Wo_run_36 (Nat.le_of_ble_eq_true rfl) rfl) ?_
      refine S.glt (x := (tb_OWN.getD ((q1 * (4 : Int32)) + v2).toNatClampNeg 0)) (Lf := fun y => [some (.ref 43), some (.int v1), some (.int v2), some (.int v3), some (.int v4), some (.int q1), some (.int y), none, none, none]) (fun x6 => ?_)
      refine S.of1 (pc2 := 41) (fun Q => g_gets q_ABOVE (List.mem_of_getElem? (i := 2) rfl) w_1071 d_Wo_run_38) ?_
      refine S.of1 (pc2 := 43) (fun Q => g_iload d_Wo_run_41 rfl) ?_
      refine S.chk (fun h7 => ?_)
      refine S.of1 (pc2 := 44) (fun Q => g_tald q_ABOVE (List.mem_of_getElem? (i := 2) rfl) (gix_in h7) d_Wo_run_43) ?_
      refine S.of1 (pc2 := 46) (L2 := [some (.ref 43), some (.int v1), some (.int v2), some (.int v3), some (.int v4), some (.int q1), some (.int x6), some (.int (tb_ABOVE.getD q1.toNatClampNeg 0)), none, none]) (fun Q => g_istore d_Wo_run_44 (Nat.le_of_ble_eq_true rfl) rfl) ?_
      refine S.glt (x := (tb_ABOVE.getD q1.toNatClampNeg 0)) (Lf := fun y => [some (.ref 43), some (.int v1), some (.int v2), some (.int v3), some (.int v4), some (.int q1), some (.int x6), some (.int y), none, none]) (fun x8 => ?_)
      refine S.of1 (pc2 := 47) (fun Q => g_aload_n d_Wo_run_46 rfl) ?_
      refine S.of1 (pc2 := 50) (fun Q => g_getr fl_RX9_11 gc_43_0 d_Wo_run_47) ?_
      refine S.of1 (pc2 := 51) (fun Q => g_aload_n d_Wo_run_50 rfl) ?_
      refine S.of1 (pc2 := 54) (fun Q => g_geti fl_RX9_32 gc_43_4 d_Wo_run_51) ?_
      refine S.chk (fun h9 => ?_)
      refine S.of1 (pc2 := 55) (fun Q => g_iald ga_44 (gix_in h9) d_Wo_run_54) ?_
      refine S.of1 (pc2 := 57) (L2 := [some (.ref 43), some (.int v1), some (.int v2), some (.int v3), some (.int v4), some (.int q1), some (.int x6), some (.int x8), some (.int (σ.1 44 (σ.1 43 4).toNatClampNeg)), none]) (fun Q => g_istore d_Wo_run_55 (Nat.le_of_ble_eq_true rfl) rfl) ?_
      refine S.glt (x := (σ.1 44 (σ.1 43 4).toNatClampNeg)) (Lf := fun y => [some (.ref 43), some (.int v1), some (.int v2), some (.int v3), some (.int v4), some (.int q1), some (.int x6), some (.int x8), some (.int y), none]) (fun x10 => ?_)
      refine S.of1 (pc2 := 59) (fun Q => g_iload d_Wo_run_57 rfl) ?_
      refine S.of1 (pc2 := 60) (fun Q => g_iconst (v := (1 : Int32)) d_Wo_run_59 (by decide)) ?_
      refine S.of1 (pc2 := 61) (fun Q => g_iadd d_Wo_run_60) ?_
      refine S.of1 (pc2 := 63) (L2 := [some (.ref 43), some (.int v1), some (.int v2), some (.int v3), some (.int v4), some (.int q1), some (.int x6), some (.int x8), some (.int x10), some (.int (v4 + (1 : Int32)))]) (fun Q => g_istore d_Wo_run_61 (Nat.le_of_ble_eq_true rfl) rfl) ?_
      refine S.glt (x := (v4 + (1 : Int32))) (Lf := fun y => [some (.ref 43), some (.int v1), some (.int v2), some (.int v3), some (.int v4), some (.int q1), some (.int x6), some (.int x8), some (.int x10), some (.int y)]) (fun x11 => ?_)
      refine S.of1 (pc2 := 64) (fun Q => g_aload_n d_Wo_run_63 rfl) ?_
      refine S.of1 (pc2 := 66) (fun Q => g_iload d_Wo_run_64 rfl) ?_
      refine S.call_wV (pc3 := 69) rfl (c_Wo_note (d - 1) (by omega) x6 σ) (fun Q => g_callV (M2 := m_Wo_note) (vs := [.int x6]) (st := []) lv_RX9_46 gk_43 rfl rfl (Nat.le_of_ble_eq_true rfl) (by omega) (Nat.le_of_ble_eq_true rfl) rfl d_Wo_run_66) (fun s12 => ?_)
      refine S.of1 (pc2 := 71) (fun Q => g_iload d_Wo_run_69 rfl) ?_
      refine S.cs (c := x6 = (1 : Int32)) (fun h13 => ?_) (fun h13 => ?_)
      · refine S.of1 (pc2 := 184) (fun Q => g_lookup (off := 113) d_Wo_run_71 (by decide) (by rw [h13]; decide) rfl) ?_
        refine S.of1 (pc2 := 185) (fun Q => g_iload_n d_Wo_run_184 rfl) ?_
        refine S.of1 (pc2 := 186) (fun Q => g_aload_n d_Wo_run_185 rfl) ?_
        refine S.of1 (pc2 := 189) (fun Q => g_geti fl_RX9_32 gc_43_4 d_Wo_run_186) ?_
        refine S.of1 (pc2 := 190) (fun Q => g_iadd d_Wo_run_189) ?_
        exact S.ret (fun Q hq => g_iret rfl d_Wo_run_190 hq)
      · refine S.cs (c := x6 = (2 : Int32)) (fun h14 => ?_) (fun h14 => ?_)
        · refine S.of1 (pc2 := 191) (fun Q => g_lookup (off := 120) d_Wo_run_71 (by decide) (by rw [h14]; decide) rfl) ?_
          refine S.of1 (pc2 := 192) (fun Q => g_aload_n d_Wo_run_191 rfl) ?_
          refine S.of1 (pc2 := 194) (fun Q => g_iload d_Wo_run_192 rfl) ?_
          refine S.of1 (pc2 := 195) (fun Q => g_iconst (v := (1 : Int32)) d_Wo_run_194 (by decide)) ?_
          refine S.of1 (pc2 := 196) (fun Q => g_iload_n d_Wo_run_195 rfl) ?_
          refine S.of1 (pc2 := 198) (fun Q => g_iload d_Wo_run_196 rfl) ?_
          refine S.call_wI (pc3 := 201) rfl (hkrun (d - 1) (by omega) x10 (1 : Int32) v3 x11 s12) (fun Q => g_callV (M2 := m_Wo_run) (vs := [.int x10, .int (1 : Int32), .int v3, .int x11]) (st := []) lv_RX9_35 gk_43 rfl rfl (Nat.le_of_ble_eq_true rfl) (by omega) (Nat.le_of_ble_eq_true rfl) rfl d_Wo_run_198) (fun q15 => ?_)
          refine S.of1 (pc2 := 202) (fun Q => g_aload_n d_Wo_run_201 rfl) ?_
          refine S.of1 (pc2 := 204) (fun Q => g_iload d_Wo_run_202 rfl) ?_
          refine S.of1 (pc2 := 205) (fun Q => g_iconst (v := (2 : Int32)) d_Wo_run_204 (by decide)) ?_
          refine S.of1 (pc2 := 206) (fun Q => g_iconst (v := (1 : Int32)) d_Wo_run_205 (by decide)) ?_
          refine S.of1 (pc2 := 208) (fun Q => g_iload d_Wo_run_206 rfl) ?_
          refine S.call_wI (pc3 := 211) rfl (hkrun (d - 1) (by omega) x10 (2 : Int32) (1 : Int32) x11 q15.2) (fun Q => g_callV (M2 := m_Wo_run) (vs := [.int x10, .int (2 : Int32), .int (1 : Int32), .int x11]) (st := [.int q15.1]) lv_RX9_35 gk_43 rfl rfl (Nat.le_of_ble_eq_true rfl) (by omega) (Nat.le_of_ble_eq_true rfl) rfl d_Wo_run_208) (fun q16 => ?_)
          refine S.of1 (pc2 := 212) (fun Q => g_isub d_Wo_run_211) ?_
          exact S.ret (fun Q hq => g_iret rfl d_Wo_run_212 hq)
        · refine S.cs (c := x6 = (10 : Int32)) (fun h17 => ?_) (fun h17 => ?_)
          · refine S.of1 (pc2 := 213) (fun Q => g_lookup (off := 142) d_Wo_run_71 (by decide) (by rw [h17]; decide) rfl) ?_
            refine S.of1 (pc2 := 214) (fun Q => g_aload_n d_Wo_run_213 rfl) ?_
            refine S.of1 (pc2 := 216) (fun Q => g_iload d_Wo_run_214 rfl) ?_
            refine S.of1 (pc2 := 217) (fun Q => g_iconst (v := (0 : Int32)) d_Wo_run_216 (by decide)) ?_
            refine S.of1 (pc2 := 218) (fun Q => g_iload_n d_Wo_run_217 rfl) ?_
            refine S.of1 (pc2 := 220) (fun Q => g_iload d_Wo_run_218 rfl) ?_
            refine S.call_wI (pc3 := 223) rfl (hkrun (d - 1) (by omega) x10 (0 : Int32) v3 x11 s12) (fun Q => g_callV (M2 := m_Wo_run) (vs := [.int x10, .int (0 : Int32), .int v3, .int x11]) (st := []) lv_RX9_35 gk_43 rfl rfl (Nat.le_of_ble_eq_true rfl) (by omega) (Nat.le_of_ble_eq_true rfl) rfl d_Wo_run_220) (fun q18 => ?_)
            refine S.of1 (pc2 := 224) (fun Q => g_iconst (v := (2 : Int32)) d_Wo_run_223 (by decide)) ?_
            refine S.of1 (pc2 := 225) (fun Q => g_imul d_Wo_run_224) ?_
            exact S.ret (fun Q hq => g_iret rfl d_Wo_run_225 hq)
          · refine S.cs (c := x6 = (11 : Int32)) (fun h19 => ?_) (fun h19 => ?_)
            · refine S.of1 (pc2 := 226) (fun Q => g_lookup (off := 155) d_Wo_run_71 (by decide) (by rw [h19]; decide) rfl) ?_
              refine S.of1 (pc2 := 227) (fun Q => g_iload_n d_Wo_run_226 rfl) ?_
              refine S.of1 (pc2 := 228) (fun Q => g_aload_n d_Wo_run_227 rfl) ?_
              refine S.of1 (pc2 := 231) (fun Q => g_geti fl_RX9_32 gc_43_4 d_Wo_run_228) ?_
              refine S.of1 (pc2 := 232) (fun Q => g_ixor d_Wo_run_231) ?_
              exact S.ret (fun Q hq => g_iret rfl d_Wo_run_232 hq)
            · refine S.cs (c := x6 = (20 : Int32)) (fun h20 => ?_) (fun h20 => ?_)
              · refine S.of1 (pc2 := 233) (fun Q => g_lookup (off := 162) d_Wo_run_71 (by decide) (by rw [h20]; decide) rfl) ?_
                refine S.of1 (pc2 := 234) (fun Q => g_aload_n d_Wo_run_233 rfl) ?_
                refine S.of1 (pc2 := 236) (fun Q => g_iload d_Wo_run_234 rfl) ?_
                refine S.of1 (pc2 := 237) (fun Q => g_iconst (v := (0 : Int32)) d_Wo_run_236 (by decide)) ?_
                refine S.of1 (pc2 := 238) (fun Q => g_iload_n d_Wo_run_237 rfl) ?_
                refine S.of1 (pc2 := 240) (fun Q => g_iload d_Wo_run_238 rfl) ?_
                refine S.call_wI (pc3 := 243) rfl (hkrun (d - 1) (by omega) x8 (0 : Int32) v3 x11 s12) (fun Q => g_callV (M2 := m_Wo_run) (vs := [.int x8, .int (0 : Int32), .int v3, .int x11]) (st := []) lv_RX9_35 gk_43 rfl rfl (Nat.le_of_ble_eq_true rfl) (by omega) (Nat.le_of_ble_eq_true rfl) rfl d_Wo_run_240) (fun q21 => ?_)
                refine S.of1 (pc2 := 244) (fun Q => g_iconst (v := (3 : Int32)) d_Wo_run_243 (by decide)) ?_
                refine S.of1 (pc2 := 245) (fun Q => g_iadd d_Wo_run_244) ?_
                exact S.ret (fun Q hq => g_iret rfl d_Wo_run_245 hq)
              · refine S.cs (c := x6 = (30 : Int32)) (fun h22 => ?_) (fun h22 => ?_)
                · refine S.of1 (pc2 := 246) (fun Q => g_lookup (off := 175) d_Wo_run_71 (by decide) (by rw [h22]; decide) rfl) ?_
                  refine S.of1 (pc2 := 247) (fun Q => g_aload_n d_Wo_run_246 rfl) ?_
                  refine S.of1 (pc2 := 249) (fun Q => g_iload d_Wo_run_247 rfl) ?_
                  refine S.of1 (pc2 := 250) (fun Q => g_iconst (v := (1 : Int32)) d_Wo_run_249 (by decide)) ?_
                  refine S.of1 (pc2 := 251) (fun Q => g_iload_n d_Wo_run_250 rfl) ?_
                  refine S.of1 (pc2 := 253) (fun Q => g_iload d_Wo_run_251 rfl) ?_
                  refine S.call_wI (pc3 := 256) rfl (hkrun (d - 1) (by omega) x8 (1 : Int32) v3 x11 s12) (fun Q => g_callV (M2 := m_Wo_run) (vs := [.int x8, .int (1 : Int32), .int v3, .int x11]) (st := []) lv_RX9_35 gk_43 rfl rfl (Nat.le_of_ble_eq_true rfl) (by omega) (Nat.le_of_ble_eq_true rfl) rfl d_Wo_run_253) (fun q23 => ?_)
                  refine S.of1 (pc2 := 257) (fun Q => g_ineg d_Wo_run_256) ?_
                  exact S.ret (fun Q hq => g_iret rfl d_Wo_run_257 hq)
                · refine S.cs (c := x6 = (40 : Int32)) (fun h24 => ?_) (fun h24 => ?_)
                  · refine S.of1 (pc2 := 258) (fun Q => g_lookup (off := 187) d_Wo_run_71 (by decide) (by rw [h24]; decide) rfl) ?_
                    refine S.of1 (pc2 := 259) (fun Q => g_aload_n d_Wo_run_258 rfl) ?_
                    refine S.of1 (pc2 := 261) (fun Q => g_iload d_Wo_run_259 rfl) ?_
                    refine S.of1 (pc2 := 262) (fun Q => g_iconst (v := (2 : Int32)) d_Wo_run_261 (by decide)) ?_
                    refine S.of1 (pc2 := 263) (fun Q => g_iload_n d_Wo_run_262 rfl) ?_
                    refine S.of1 (pc2 := 265) (fun Q => g_iload d_Wo_run_263 rfl) ?_
                    refine S.call_wI (pc3 := 268) rfl (hkrun (d - 1) (by omega) x8 (2 : Int32) v3 x11 s12) (fun Q => g_callV (M2 := m_Wo_run) (vs := [.int x8, .int (2 : Int32), .int v3, .int x11]) (st := []) lv_RX9_35 gk_43 rfl rfl (Nat.le_of_ble_eq_true rfl) (by omega) (Nat.le_of_ble_eq_true rfl) rfl d_Wo_run_265) (fun q25 => ?_)
                    refine S.of1 (pc2 := 269) (fun Q => g_iconst (v := (3 : Int32)) d_Wo_run_268 (by decide)) ?_
                    refine S.of1 (pc2 := 270) (fun Q => g_imul d_Wo_run_269) ?_
                    exact S.ret (fun Q hq => g_iret rfl d_Wo_run_270 hq)
                  · refine S.cs (c := x6 = (41 : Int32)) (fun h26 => ?_) (fun h26 => ?_)
                    · refine S.of1 (pc2 := 271) (fun Q => g_lookup (off := 200) d_Wo_run_71 (by decide) (by rw [h26]; decide) rfl) ?_
                      refine S.of1 (pc2 := 272) (fun Q => g_aload_n d_Wo_run_271 rfl) ?_
                      refine S.of1 (pc2 := 274) (fun Q => g_iload d_Wo_run_272 rfl) ?_
                      refine S.of1 (pc2 := 275) (fun Q => g_iconst (v := (1 : Int32)) d_Wo_run_274 (by decide)) ?_
                      refine S.of1 (pc2 := 276) (fun Q => g_iload_n d_Wo_run_275 rfl) ?_
                      refine S.of1 (pc2 := 277) (fun Q => g_iconst (v := (1 : Int32)) d_Wo_run_276 (by decide)) ?_
                      refine S.of1 (pc2 := 278) (fun Q => g_iadd d_Wo_run_277) ?_
                      refine S.of1 (pc2 := 280) (fun Q => g_iload d_Wo_run_278 rfl) ?_
                      refine S.call_wI (pc3 := 283) rfl (hkrun (d - 1) (by omega) x8 (1 : Int32) (v3 + (1 : Int32)) x11 s12) (fun Q => g_callV (M2 := m_Wo_run) (vs := [.int x8, .int (1 : Int32), .int (v3 + (1 : Int32)), .int x11]) (st := []) lv_RX9_35 gk_43 rfl rfl (Nat.le_of_ble_eq_true rfl) (by omega) (Nat.le_of_ble_eq_true rfl) rfl d_Wo_run_280) (fun q27 => ?_)
                      exact S.ret (fun Q hq => g_iret rfl d_Wo_run_283 hq)
                    · refine S.cs (c := x6 = (50 : Int32)) (fun h28 => ?_) (fun h28 => ?_)
                      · refine S.of1 (pc2 := 284) (fun Q => g_lookup (off := 213) d_Wo_run_71 (by decide) (by rw [h28]; decide) rfl) ?_
                        refine S.of1 (pc2 := 285) (fun Q => g_aload_n d_Wo_run_284 rfl) ?_
                        refine S.of1 (pc2 := 287) (fun Q => g_iload d_Wo_run_285 rfl) ?_
                        refine S.of1 (pc2 := 288) (fun Q => g_iconst (v := (2 : Int32)) d_Wo_run_287 (by decide)) ?_
                        refine S.of1 (pc2 := 289) (fun Q => g_iload_n d_Wo_run_288 rfl) ?_
                        refine S.of1 (pc2 := 291) (fun Q => g_iload d_Wo_run_289 rfl) ?_
                        refine S.call_wI (pc3 := 294) rfl (hkrun (d - 1) (by omega) x8 (2 : Int32) v3 x11 s12) (fun Q => g_callV (M2 := m_Wo_run) (vs := [.int x8, .int (2 : Int32), .int v3, .int x11]) (st := []) lv_RX9_35 gk_43 rfl rfl (Nat.le_of_ble_eq_true rfl) (by omega) (Nat.le_of_ble_eq_true rfl) rfl d_Wo_run_291) (fun q29 => ?_)
                        refine S.of1 (pc2 := 295) (fun Q => g_aload_n d_Wo_run_294 rfl) ?_
                        refine S.of1 (pc2 := 297) (fun Q => g_iload d_Wo_run_295 rfl) ?_
                        refine S.of1 (pc2 := 298) (fun Q => g_iconst (v := (0 : Int32)) d_Wo_run_297 (by decide)) ?_
                        refine S.of1 (pc2 := 299) (fun Q => g_iconst (v := (2 : Int32)) d_Wo_run_298 (by decide)) ?_
                        refine S.of1 (pc2 := 301) (fun Q => g_iload d_Wo_run_299 rfl) ?_
                        refine S.call_wI (pc3 := 304) rfl (hkrun (d - 1) (by omega) x10 (0 : Int32) (2 : Int32) x11 q29.2) (fun Q => g_callV (M2 := m_Wo_run) (vs := [.int x10, .int (0 : Int32), .int (2 : Int32), .int x11]) (st := [.int q29.1]) lv_RX9_35 gk_43 rfl rfl (Nat.le_of_ble_eq_true rfl) (by omega) (Nat.le_of_ble_eq_true rfl) rfl d_Wo_run_301) (fun q30 => ?_)
                        refine S.of1 (pc2 := 305) (fun Q => g_isub d_Wo_run_304) ?_
                        exact S.ret (fun Q hq => g_iret rfl d_Wo_run_305 hq)
                      · refine S.cs (c := x6 = (60 : Int32)) (fun h31 => ?_) (fun h31 => ?_)
                        · refine S.of1 (pc2 := 306) (fun Q => g_lookup (off := 235) d_Wo_run_71 (by decide) (by rw [h31]; decide) rfl) ?_
                          refine S.of1 (pc2 := 307) (fun Q => g_aload_n d_Wo_run_306 rfl) ?_
                          refine S.of1 (pc2 := 309) (fun Q => g_iload d_Wo_run_307 rfl) ?_
                          refine S.of1 (pc2 := 310) (fun Q => g_iconst (v := (3 : Int32)) d_Wo_run_309 (by decide)) ?_
                          refine S.of1 (pc2 := 311) (fun Q => g_iload_n d_Wo_run_310 rfl) ?_
                          refine S.of1 (pc2 := 313) (fun Q => g_iload d_Wo_run_311 rfl) ?_
                          refine S.call_wI (pc3 := 316) rfl (hkrun (d - 1) (by omega) x8 (3 : Int32) v3 x11 s12) (fun Q => g_callV (M2 := m_Wo_run) (vs := [.int x8, .int (3 : Int32), .int v3, .int x11]) (st := []) lv_RX9_35 gk_43 rfl rfl (Nat.le_of_ble_eq_true rfl) (by omega) (Nat.le_of_ble_eq_true rfl) rfl d_Wo_run_313) (fun q32 => ?_)
                          refine S.of1 (pc2 := 317) (fun Q => g_iconst (v := (5 : Int32)) d_Wo_run_316 (by decide)) ?_
                          refine S.of1 (pc2 := 318) (fun Q => g_ixor d_Wo_run_317) ?_
                          exact S.ret (fun Q hq => g_iret rfl d_Wo_run_318 hq)
                        · refine S.cs (c := x6 = (70 : Int32)) (fun h33 => ?_) (fun h33 => ?_)
                          · refine S.of1 (pc2 := 319) (fun Q => g_lookup (off := 248) d_Wo_run_71 (by decide) (by rw [h33]; decide) rfl) ?_
                            refine S.of1 (pc2 := 320) (fun Q => g_aload_n d_Wo_run_319 rfl) ?_
                            refine S.of1 (pc2 := 322) (fun Q => g_iload d_Wo_run_320 rfl) ?_
                            refine S.of1 (pc2 := 323) (fun Q => g_iconst (v := (0 : Int32)) d_Wo_run_322 (by decide)) ?_
                            refine S.of1 (pc2 := 324) (fun Q => g_iload_n d_Wo_run_323 rfl) ?_
                            refine S.of1 (pc2 := 326) (fun Q => g_iload d_Wo_run_324 rfl) ?_
                            refine S.call_wI (pc3 := 329) rfl (hkrun (d - 1) (by omega) x8 (0 : Int32) v3 x11 s12) (fun Q => g_callV (M2 := m_Wo_run) (vs := [.int x8, .int (0 : Int32), .int v3, .int x11]) (st := []) lv_RX9_35 gk_43 rfl rfl (Nat.le_of_ble_eq_true rfl) (by omega) (Nat.le_of_ble_eq_true rfl) rfl d_Wo_run_326) (fun q34 => ?_)
                            refine S.of1 (pc2 := 330) (fun Q => g_iconst (v := (2 : Int32)) d_Wo_run_329 (by decide)) ?_
                            refine S.of1 (pc2 := 331) (fun Q => g_imul d_Wo_run_330) ?_
                            exact S.ret (fun Q hq => g_iret rfl d_Wo_run_331 hq)
                          · refine S.cs (c := x6 = (80 : Int32)) (fun h35 => ?_) (fun h35 => ?_)
                            · refine S.of1 (pc2 := 332) (fun Q => g_lookup (off := 261) d_Wo_run_71 (by decide) (by rw [h35]; decide) rfl) ?_
                              refine S.of1 (pc2 := 333) (fun Q => g_aload_n d_Wo_run_332 rfl) ?_
                              refine S.of1 (pc2 := 335) (fun Q => g_iload d_Wo_run_333 rfl) ?_
                              refine S.of1 (pc2 := 336) (fun Q => g_iconst (v := (1 : Int32)) d_Wo_run_335 (by decide)) ?_
                              refine S.of1 (pc2 := 337) (fun Q => g_iload_n d_Wo_run_336 rfl) ?_
                              refine S.of1 (pc2 := 339) (fun Q => g_iload d_Wo_run_337 rfl) ?_
                              refine S.call_wI (pc3 := 342) rfl (hkrun (d - 1) (by omega) x8 (1 : Int32) v3 x11 s12) (fun Q => g_callV (M2 := m_Wo_run) (vs := [.int x8, .int (1 : Int32), .int v3, .int x11]) (st := []) lv_RX9_35 gk_43 rfl rfl (Nat.le_of_ble_eq_true rfl) (by omega) (Nat.le_of_ble_eq_true rfl) rfl d_Wo_run_339) (fun q36 => ?_)
                              refine S.of1 (pc2 := 343) (fun Q => g_aload_n d_Wo_run_342 rfl) ?_
                              refine S.of1 (pc2 := 345) (fun Q => g_iload d_Wo_run_343 rfl) ?_
                              refine S.of1 (pc2 := 346) (fun Q => g_iconst (v := (2 : Int32)) d_Wo_run_345 (by decide)) ?_
                              refine S.of1 (pc2 := 347) (fun Q => g_iconst (v := (2 : Int32)) d_Wo_run_346 (by decide)) ?_
                              refine S.of1 (pc2 := 349) (fun Q => g_iload d_Wo_run_347 rfl) ?_
                              refine S.call_wI (pc3 := 352) rfl (hkrun (d - 1) (by omega) x10 (2 : Int32) (2 : Int32) x11 q36.2) (fun Q => g_callV (M2 := m_Wo_run) (vs := [.int x10, .int (2 : Int32), .int (2 : Int32), .int x11]) (st := [.int q36.1]) lv_RX9_35 gk_43 rfl rfl (Nat.le_of_ble_eq_true rfl) (by omega) (Nat.le_of_ble_eq_true rfl) rfl d_Wo_run_349) (fun q37 => ?_)
                              refine S.of1 (pc2 := 353) (fun Q => g_iadd d_Wo_run_352) ?_
                              exact S.ret (fun Q hq => g_iret rfl d_Wo_run_353 hq)
                            · refine S.cs (c := x6 = (81 : Int32)) (fun h38 => ?_) (fun h38 => ?_)
                              · refine S.of1 (pc2 := 354) (fun Q => g_lookup (off := 283) d_Wo_run_71 (by decide) (by rw [h38]; decide) rfl) ?_
                                refine S.of1 (pc2 := 355) (fun Q => g_aload_n d_Wo_run_354 rfl) ?_
                                refine S.of1 (pc2 := 357) (fun Q => g_iload d_Wo_run_355 rfl) ?_
                                refine S.of1 (pc2 := 358) (fun Q => g_iconst (v := (3 : Int32)) d_Wo_run_357 (by decide)) ?_
                                refine S.of1 (pc2 := 359) (fun Q => g_iload_n d_Wo_run_358 rfl) ?_
                                refine S.of1 (pc2 := 361) (fun Q => g_iload d_Wo_run_359 rfl) ?_
                                refine S.call_wI (pc3 := 364) rfl (hkrun (d - 1) (by omega) x8 (3 : Int32) v3 x11 s12) (fun Q => g_callV (M2 := m_Wo_run) (vs := [.int x8, .int (3 : Int32), .int v3, .int x11]) (st := []) lv_RX9_35 gk_43 rfl rfl (Nat.le_of_ble_eq_true rfl) (by omega) (Nat.le_of_ble_eq_true rfl) rfl d_Wo_run_361) (fun q39 => ?_)
                                refine S.of1 (pc2 := 365) (fun Q => g_iconst (v := (1 : Int32)) d_Wo_run_364 (by decide)) ?_
                                refine S.of1 (pc2 := 366) (fun Q => g_isub d_Wo_run_365) ?_
                                exact S.ret (fun Q hq => g_iret rfl d_Wo_run_366 hq)
                              · refine S.of1 (pc2 := 367) (fun Q => g_lookup (off := 296) d_Wo_run_71 (by decide) (by show Op.lookupswitch.offset [(1, 113), (2, 120), (10, 142), (11, 155), (20, 162), (30, 175), (40, 187), (41, 200), (50, 213), (60, 235), (70, 248), (80, 261), (81, 283)] 296 x6.toInt = 296; rw [lv_osw h13 (by decide), lv_osw h14 (by decide), lv_osw h17 (by decide), lv_osw h19 (by decide), lv_osw h20 (by decide), lv_osw h22 (by decide), lv_osw h24 (by decide), lv_osw h26 (by decide), lv_osw h28 (by decide), lv_osw h31 (by decide), lv_osw h33 (by decide), lv_osw h35 (by decide), lv_osw h38 (by decide)]; rfl) rfl) ?_
                                refine S.of1 (pc2 := 368) (fun Q => g_iconst (v := (0 : Int32)) d_Wo_run_367 (by decide)) ?_
                                exact S.ret (fun Q hq => g_iret rfl d_Wo_run_368 hq)
    · refine S.of1 (pc2 := 25) (fun Q => g_iconst (v := (0 : Int32)) d_Wo_run_24 (by decide)) ?_
      exact S.ret (fun Q hq => g_iret rfl d_Wo_run_25 hq)
def f_Wo_run : Nat → Int32 → Int32 → Int32 → Int32 → gS → Option (Int32 × gS)
  | 0, _, _, _, _, _ => none
  | n + 1, v1, v2, v3, v4, σ => fo_Wo_run (fun v1 v2 v3 v4 σ => f_Wo_run n v1 v2 v3 v4 σ) v1 v2 v3 v4 σ
theorem c_Wo_run : ∀ (n d : Nat) (_ : 2 + 1 * n ≤ d) (v1 : Int32) (v2 : Int32) (v3 : Int32) (v4 : Int32) (σ : gS), C wI d m_Wo_run [.ref 43, .int v1, .int v2, .int v3, .int v4] σ (f_Wo_run n v1 v2 v3 v4 σ) := by
  intro n
  induction n with
  | zero =>
    intros
    unfold f_Wo_run
    intro a Q h1 _
    cases h1
  | succ n ih =>
    intro d hd v1 v2 v3 v4 σ
    unfold f_Wo_run
    exact co_Wo_run (2 + 1 * n) (by omega) _ (fun d hd v1 v2 v3 v4 σ => ih d hd v1 v2 v3 v4 σ) d (by omega) v1 v2 v3 v4 σ
def f_Wo_start (v1 : Int32) (v2 : Int32) (v3 : Int32) (σ : gS) : Option (Int32 × gS) :=
  gup (gpi σ 43 3 (0 : Int32)) fun s1 => (f_T_within v1 (s1.1 43 2)).bind fun q2 => if q2 = 0 then some ((0 : Int32), s1) else (f_T_within v2 (4 : Int32)).bind fun q4 => if q4 = 0 then some ((0 : Int32), s1) else gup (gpi s1 43 4 v1) fun s6 => if gix v1 50 then (f_Wo_run 40 (s6.1 44 v1.toNatClampNeg) v2 v3 (0 : Int32) s6).bind fun q8 => some (q8.1, q8.2) else none
theorem c_Wo_start (d : Nat) (hd : 43 ≤ d) (v1 : Int32) (v2 : Int32) (v3 : Int32) (σ : gS) : C wI d m_Wo_start [.ref 43, .int v1, .int v2, .int v3] σ (f_Wo_start v1 v2 v3 σ) := by
  unfold f_Wo_start
  refine C.of (by decide +kernel) (Nat.le_of_ble_eq_true rfl) (L := [some (.ref 43), some (.int v1), some (.int v2), some (.int v3)]) rfl ?_
  refine S.of1 (pc2 := 1) (fun Q => g_aload_n d_Wo_start_0 rfl) ?_
  refine S.of1 (pc2 := 2) (fun Q => g_iconst (v := (0 : Int32)) d_Wo_start_1 (by decide)) ?_
  refine S.of1 (pc2 := 5) (fun Q => g_puti fl_RX9_29 gc_43_3 rfl rfl d_Wo_start_2) ?_
  refine S.gup (fun s1 => ?_)
  refine S.of1 (pc2 := 6) (fun Q => g_iload_n d_Wo_start_5 rfl) ?_
  refine S.of1 (pc2 := 7) (fun Q => g_aload_n d_Wo_start_6 rfl) ?_
  refine S.of1 (pc2 := 10) (fun Q => g_geti fl_RX9_18 gc_43_2 d_Wo_start_7) ?_
  refine S.call_rI (pc3 := 13) rfl (c_T_within (d - 1) (by omega) v1 (s1.1 43 2) s1) (fun Q => g_callSN (M2 := m_T_within) (vs := [.int v1, .int (s1.1 43 2)]) (st := []) ln_RX9_22 rfl (Nat.le_of_ble_eq_true rfl) (by omega) (Nat.le_of_ble_eq_true rfl) rfl d_Wo_start_10) (fun q2 => ?_)
  refine S.br (c := q2 = 0) (t := 24) (e := 16) (fun Q kt kf => g_if_eq d_Wo_start_13 rfl kt kf) (fun h3 => ?_) (fun h3 => ?_)
  · refine S.of1 (pc2 := 25) (fun Q => g_iconst (v := (0 : Int32)) d_Wo_start_24 (by decide)) ?_
    exact S.ret (fun Q hq => g_iret rfl d_Wo_start_25 hq)
  · refine S.of1 (pc2 := 17) (fun Q => g_iload_n d_Wo_start_16 rfl) ?_
    refine S.of1 (pc2 := 18) (fun Q => g_iconst (v := (4 : Int32)) d_Wo_start_17 (by decide)) ?_
    refine S.call_rI (pc3 := 21) rfl (c_T_within (d - 1) (by omega) v2 (4 : Int32) s1) (fun Q => g_callSN (M2 := m_T_within) (vs := [.int v2, .int (4 : Int32)]) (st := []) ln_RX9_22 rfl (Nat.le_of_ble_eq_true rfl) (by omega) (Nat.le_of_ble_eq_true rfl) rfl d_Wo_start_18) (fun q4 => ?_)
    refine S.br (c := q4 = 0) (t := 24) (e := 26) (fun Q kt kf => g_if_ne d_Wo_start_21 rfl kf kt) (fun h5 => ?_) (fun h5 => ?_)
    · refine S.of1 (pc2 := 25) (fun Q => g_iconst (v := (0 : Int32)) d_Wo_start_24 (by decide)) ?_
      exact S.ret (fun Q hq => g_iret rfl d_Wo_start_25 hq)
    · refine S.of1 (pc2 := 27) (fun Q => g_aload_n d_Wo_start_26 rfl) ?_
      refine S.of1 (pc2 := 28) (fun Q => g_iload_n d_Wo_start_27 rfl) ?_
      refine S.of1 (pc2 := 31) (fun Q => g_puti fl_RX9_32 gc_43_4 rfl rfl d_Wo_start_28) ?_
      refine S.gup (fun s6 => ?_)
      refine S.of1 (pc2 := 32) (fun Q => g_aload_n d_Wo_start_31 rfl) ?_
      refine S.of1 (pc2 := 33) (fun Q => g_aload_n d_Wo_start_32 rfl) ?_
      refine S.of1 (pc2 := 36) (fun Q => g_getr fl_RX9_11 gc_43_0 d_Wo_start_33) ?_
      refine S.of1 (pc2 := 37) (fun Q => g_iload_n d_Wo_start_36 rfl) ?_
      refine S.chk (fun h7 => ?_)
      refine S.of1 (pc2 := 38) (fun Q => g_iald ga_44 (gix_in h7) d_Wo_start_37) ?_
      refine S.of1 (pc2 := 39) (fun Q => g_iload_n d_Wo_start_38 rfl) ?_
      refine S.of1 (pc2 := 40) (fun Q => g_iload_n d_Wo_start_39 rfl) ?_
      refine S.of1 (pc2 := 41) (fun Q => g_iconst (v := (0 : Int32)) d_Wo_start_40 (by decide)) ?_
      refine S.call_wI (pc3 := 44) rfl (c_Wo_run 40 (d - 1) (by omega) (s6.1 44 v1.toNatClampNeg) v2 v3 (0 : Int32) s6) (fun Q => g_callV (M2 := m_Wo_run) (vs := [.int (s6.1 44 v1.toNatClampNeg), .int v2, .int v3, .int (0 : Int32)]) (st := []) lv_RX9_35 gk_43 rfl rfl (Nat.le_of_ble_eq_true rfl) (by omega) (Nat.le_of_ble_eq_true rfl) rfl d_Wo_start_41) (fun q8 => ?_)
      exact S.ret (fun Q hq => g_iret rfl d_Wo_start_44 hq)
def f_T_act (v1 : Int32) (v2 : Int32) (v3 : Int32) (σ : gS) : Option (Int32 × gS) :=
  (f_Wo_start v1 v2 v3 σ).bind fun q1 => some (q1.1, q1.2)
theorem c_T_act (d : Nat) (hd : 44 ≤ d) (v1 : Int32) (v2 : Int32) (v3 : Int32) (σ : gS) : C wI d m_T_act [.ref 0, .int v1, .int v2, .int v3] σ (f_T_act v1 v2 v3 σ) := by
  unfold f_T_act
  refine C.of (by decide +kernel) (Nat.le_of_ble_eq_true rfl) (L := [some (.ref 0), some (.int v1), some (.int v2), some (.int v3)]) rfl ?_
  refine S.of1 (pc2 := 1) (fun Q => g_aload_n d_T_act_0 rfl) ?_
  refine S.of1 (pc2 := 4) (fun Q => g_getr fl_RX10_61 gc_0_7 d_T_act_1) ?_
  refine S.of1 (pc2 := 5) (fun Q => g_iload_n d_T_act_4 rfl) ?_
  refine S.of1 (pc2 := 6) (fun Q => g_iload_n d_T_act_5 rfl) ?_
  refine S.of1 (pc2 := 7) (fun Q => g_iload_n d_T_act_6 rfl) ?_
  refine S.call_wI (pc3 := 10) rfl (c_Wo_start (d - 1) (by omega) v1 v2 v3 σ) (fun Q => g_callV (M2 := m_Wo_start) (vs := [.int v1, .int v2, .int v3]) (st := []) lv_RX10_313 gk_43 rfl rfl (Nat.le_of_ble_eq_true rfl) (by omega) (Nat.le_of_ble_eq_true rfl) rfl d_T_act_7) (fun q1 => ?_)
  exact S.ret (fun Q hq => g_iret rfl d_T_act_10 hq)
def f_T_trace (v1 : Int32) (σ : gS) : Option Int32 :=
  (f_T_within v1 (gmin (σ.1 43 3) (24 : Int32))).bind fun q1 => if q1 = 0 then some (-1 : Int32) else if gix v1 24 then some (σ.1 45 v1.toNatClampNeg) else none
theorem c_T_trace (d : Nat) (hd : 2 ≤ d) (v1 : Int32) (σ : gS) : C (rI σ) d m_T_trace [.ref 0, .int v1] σ (f_T_trace v1 σ) := by
  unfold f_T_trace
  refine C.of (by decide +kernel) (Nat.le_of_ble_eq_true rfl) (L := [some (.ref 0), some (.int v1)]) rfl ?_
  refine S.of1 (pc2 := 1) (fun Q => g_iload_n d_T_trace_0 rfl) ?_
  refine S.of1 (pc2 := 2) (fun Q => g_aload_n d_T_trace_1 rfl) ?_
  refine S.of1 (pc2 := 5) (fun Q => g_getr fl_RX10_61 gc_0_7 d_T_trace_2) ?_
  refine S.of1 (pc2 := 8) (fun Q => g_geti fl_RX10_316 gc_43_3 d_T_trace_5) ?_
  refine S.of1 (pc2 := 10) (fun Q => g_bipush (v := (24 : Int32)) d_T_trace_8 (by decide)) ?_
  refine S.of1 (pc2 := 13) (fun Q => g_mmin w_901 w_600 w_91 wc_min (by omega) (Nat.le_of_ble_eq_true rfl) d_T_trace_10) ?_
  refine S.call_rI (pc3 := 16) rfl (c_T_within (d - 1) (by omega) v1 (gmin (σ.1 43 3) (24 : Int32)) σ) (fun Q => g_callS (M2 := m_T_within) (vs := [.int v1, .int (gmin (σ.1 43 3) (24 : Int32))]) (st := []) ls_RX10_72 rfl (Nat.le_of_ble_eq_true rfl) (by omega) (Nat.le_of_ble_eq_true rfl) rfl d_T_trace_13) (fun q1 => ?_)
  refine S.br (c := q1 = 0) (t := 31) (e := 19) (fun Q kt kf => g_if_eq d_T_trace_16 rfl kt kf) (fun h2 => ?_) (fun h2 => ?_)
  · refine S.of1 (pc2 := 32) (fun Q => g_iconst (v := (-1 : Int32)) d_T_trace_31 (by decide)) ?_
    exact S.ret (fun Q hq => g_iret rfl d_T_trace_32 hq)
  · refine S.of1 (pc2 := 20) (fun Q => g_aload_n d_T_trace_19 rfl) ?_
    refine S.of1 (pc2 := 23) (fun Q => g_getr fl_RX10_61 gc_0_7 d_T_trace_20) ?_
    refine S.of1 (pc2 := 26) (fun Q => g_getr fl_RX10_319 gc_43_1 d_T_trace_23) ?_
    refine S.of1 (pc2 := 27) (fun Q => g_iload_n d_T_trace_26 rfl) ?_
    refine S.chk (fun h3 => ?_)
    refine S.of1 (pc2 := 28) (fun Q => g_iald ga_45 (gix_in h3) d_T_trace_27) ?_
    refine S.of1 (pc2 := 32) (fun Q => g_goto d_T_trace_28 rfl) ?_
    exact S.ret (fun Q hq => g_iret rfl d_T_trace_32 hq)
def f_Sh_holdWord_j10 (c : Nat) (v1 : Int32) (s0 : Int32) (σ : gS) : Option gS :=
  gup (gpi σ c 1 s0) fun s2 => gup (gpi s2 c 2 v1) fun s3 => some s3
theorem s_Sh_holdWord_j10 (d : Nat) (hd : 1 ≤ d) (c : Nat) (hc : gcls c = some 8) (v1 : Int32) (s0 : Int32) (σ : gS) : S wV m_Sh_holdWord d 10 [some (.ref c), some (.int v1)] [.int s0, .ref c] σ (f_Sh_holdWord_j10 c v1 s0 σ) := by
  unfold f_Sh_holdWord_j10
  refine S.of1 (pc2 := 13) (fun Q => g_puti fl_RX8_15 (gq_8_1 hc) rfl rfl d_Sh_holdWord_10) ?_
  refine S.gup (fun s2 => ?_)
  refine S.of1 (pc2 := 14) (fun Q => g_aload_n d_Sh_holdWord_13 rfl) ?_
  refine S.of1 (pc2 := 15) (fun Q => g_iload_n d_Sh_holdWord_14 rfl) ?_
  refine S.of1 (pc2 := 18) (fun Q => g_puti fl_RX8_19 (gq_8_2 hc) rfl rfl d_Sh_holdWord_15) ?_
  refine S.gup (fun s3 => ?_)
  exact S.ret (fun Q hq => g_vret rfl d_Sh_holdWord_18 hq)
def f_Sh_holdWord (c : Nat) (v1 : Int32) (σ : gS) : Option gS :=
  if 0 ≤ v1 then f_Sh_holdWord_j10 c v1 (1 : Int32) σ else f_Sh_holdWord_j10 c v1 (0 : Int32) σ
theorem c_Sh_holdWord (d : Nat) (hd : 1 ≤ d) (c : Nat) (hc : gcls c = some 8) (v1 : Int32) (σ : gS) : C wV d m_Sh_holdWord [.ref c, .int v1] σ (f_Sh_holdWord c v1 σ) := by
  unfold f_Sh_holdWord
  refine C.of (by decide +kernel) (Nat.le_of_ble_eq_true rfl) (L := [some (.ref c), some (.int v1)]) rfl ?_
  refine S.of1 (pc2 := 1) (fun Q => g_aload_n d_Sh_holdWord_0 rfl) ?_
  refine S.of1 (pc2 := 2) (fun Q => g_iload_n d_Sh_holdWord_1 rfl) ?_
  refine S.br (c := 0 ≤ v1) (t := 9) (e := 5) (fun Q kt kf => g_if_ge d_Sh_holdWord_2 rfl kt kf) (fun h1 => ?_) (fun h1 => ?_)
  · refine S.of1 (pc2 := 10) (fun Q => g_iconst (v := (1 : Int32)) d_Sh_holdWord_9 (by decide)) ?_
    exact S.wk (L2 := [some (.ref c), some (.int v1)]) (And.intro rfl (And.intro rfl trivial)) (s_Sh_holdWord_j10 d hd c hc v1 (1 : Int32) σ)
  · refine S.of1 (pc2 := 6) (fun Q => g_iconst (v := (0 : Int32)) d_Sh_holdWord_5 (by decide)) ?_
    refine S.of1 (pc2 := 10) (fun Q => g_goto d_Sh_holdWord_6 rfl) ?_
    exact S.wk (L2 := [some (.ref c), some (.int v1)]) (And.intro rfl (And.intro rfl trivial)) (s_Sh_holdWord_j10 d hd c hc v1 (0 : Int32) σ)
def f_T_keep_j30 (v1 : Int32) (v2 : Int32) (σ : gS) : Option (Int32 × gS) :=
  if gix v1 6 then (f_Sh_holdWord (gshc v1) v2 σ).bind fun s5 => some ((1 : Int32), s5) else none
theorem s_T_keep_j30 (d : Nat) (hd : 2 ≤ d) (v1 : Int32) (v2 : Int32) (σ : gS) : S wI m_T_keep d 30 [some (.ref 0), some (.int v1), some (.int v2)] [] σ (f_T_keep_j30 v1 v2 σ) := by
  unfold f_T_keep_j30
  refine S.of1 (pc2 := 31) (fun Q => g_aload_n d_T_keep_30 rfl) ?_
  refine S.of1 (pc2 := 34) (fun Q => g_getr fl_RX10_67 gc_0_8 d_T_keep_31) ?_
  refine S.of1 (pc2 := 35) (fun Q => g_iload_n d_T_keep_34 rfl) ?_
  refine S.chk (fun h4 => ?_)
  refine S.of1 (pc2 := 36) (fun Q => g_aald gra_46 (gix_in h4) (gsh_get h4) d_T_keep_35) ?_
  refine S.of1 (pc2 := 37) (fun Q => g_iload_n d_T_keep_36 rfl) ?_
  refine S.call_wV (pc3 := 40) rfl (c_Sh_holdWord (d - 1) (by omega) (gshc v1) (gsh_cls h4) v2 σ) (fun Q => g_callV (M2 := m_Sh_holdWord) (vs := [.int v2]) (st := []) lv_RX10_323 (gsh_cls h4) rfl rfl (Nat.le_of_ble_eq_true rfl) (by omega) (Nat.le_of_ble_eq_true rfl) rfl d_T_keep_37) (fun s5 => ?_)
  refine S.of1 (pc2 := 41) (fun Q => g_iconst (v := (1 : Int32)) d_T_keep_40 (by decide)) ?_
  exact S.ret (fun Q hq => g_iret rfl d_T_keep_41 hq)
def f_T_keep (v1 : Int32) (v2 : Int32) (σ : gS) : Option (Int32 × gS) :=
  (f_T_within v1 (6 : Int32)).bind fun q1 => if q1 = 0 then some ((-1 : Int32), σ) else if v2 = (-1 : Int32) then f_T_keep_j30 v1 v2 σ else (f_T_within v2 (σ.1 43 2)).bind fun q6 => if q6 = 0 then some ((-1 : Int32), σ) else f_T_keep_j30 v1 v2 σ
theorem c_T_keep (d : Nat) (hd : 2 ≤ d) (v1 : Int32) (v2 : Int32) (σ : gS) : C wI d m_T_keep [.ref 0, .int v1, .int v2] σ (f_T_keep v1 v2 σ) := by
  unfold f_T_keep
  refine C.of (by decide +kernel) (Nat.le_of_ble_eq_true rfl) (L := [some (.ref 0), some (.int v1), some (.int v2)]) rfl ?_
  refine S.of1 (pc2 := 1) (fun Q => g_iload_n d_T_keep_0 rfl) ?_
  refine S.of1 (pc2 := 3) (fun Q => g_bipush (v := (6 : Int32)) d_T_keep_1 (by decide)) ?_
  refine S.call_rI (pc3 := 6) rfl (c_T_within (d - 1) (by omega) v1 (6 : Int32) σ) (fun Q => g_callS (M2 := m_T_within) (vs := [.int v1, .int (6 : Int32)]) (st := []) ls_RX10_72 rfl (Nat.le_of_ble_eq_true rfl) (by omega) (Nat.le_of_ble_eq_true rfl) rfl d_T_keep_3) (fun q1 => ?_)
  refine S.br (c := q1 = 0) (t := 28) (e := 9) (fun Q kt kf => g_if_eq d_T_keep_6 rfl kt kf) (fun h2 => ?_) (fun h2 => ?_)
  · refine S.of1 (pc2 := 29) (fun Q => g_iconst (v := (-1 : Int32)) d_T_keep_28 (by decide)) ?_
    exact S.ret (fun Q hq => g_iret rfl d_T_keep_29 hq)
  · refine S.of1 (pc2 := 10) (fun Q => g_iload_n d_T_keep_9 rfl) ?_
    refine S.of1 (pc2 := 11) (fun Q => g_iconst (v := (-1 : Int32)) d_T_keep_10 (by decide)) ?_
    refine S.br (c := v2 = (-1 : Int32)) (t := 30) (e := 14) (fun Q kt kf => g_icmp_eq d_T_keep_11 rfl kt kf) (fun h3 => ?_) (fun h3 => ?_)
    · exact S.wk (L2 := [some (.ref 0), some (.int v1), some (.int v2)]) (And.intro rfl (And.intro rfl (And.intro rfl trivial))) (s_T_keep_j30 d hd v1 v2 σ)
    · refine S.of1 (pc2 := 15) (fun Q => g_iload_n d_T_keep_14 rfl) ?_
      refine S.of1 (pc2 := 16) (fun Q => g_aload_n d_T_keep_15 rfl) ?_
      refine S.of1 (pc2 := 19) (fun Q => g_getr fl_RX10_61 gc_0_7 d_T_keep_16) ?_
      refine S.of1 (pc2 := 22) (fun Q => g_geti fl_RX10_322 gc_43_2 d_T_keep_19) ?_
      refine S.call_rI (pc3 := 25) rfl (c_T_within (d - 1) (by omega) v2 (σ.1 43 2) σ) (fun Q => g_callS (M2 := m_T_within) (vs := [.int v2, .int (σ.1 43 2)]) (st := []) ls_RX10_72 rfl (Nat.le_of_ble_eq_true rfl) (by omega) (Nat.le_of_ble_eq_true rfl) rfl d_T_keep_22) (fun q6 => ?_)
      refine S.br (c := q6 = 0) (t := 28) (e := 30) (fun Q kt kf => g_if_ne d_T_keep_25 rfl kf kt) (fun h7 => ?_) (fun h7 => ?_)
      · refine S.of1 (pc2 := 29) (fun Q => g_iconst (v := (-1 : Int32)) d_T_keep_28 (by decide)) ?_
        exact S.ret (fun Q hq => g_iret rfl d_T_keep_29 hq)
      · exact S.wk (L2 := [some (.ref 0), some (.int v1), some (.int v2)]) (And.intro rfl (And.intro rfl (And.intro rfl trivial))) (s_T_keep_j30 d hd v1 v2 σ)
def f_Sh_holdRow (c : Nat) (v1 : Int32) (v2 : Int32) (σ : gS) : Option gS :=
  (f_JA_fillJ 60 (c + 1) (0 : Int64) σ).bind fun s1 => gup (gpi s1 c 1 (2 : Int32)) fun s2 => gup (gpi s2 c 3 v1) fun s3 => gup (gpi s3 c 4 v2) fun s4 => some s4
theorem c_Sh_holdRow (d : Nat) (hd : 2 ≤ d) (c : Nat) (hc : gcls c = some 8) (v1 : Int32) (v2 : Int32) (σ : gS) : C wV d m_Sh_holdRow [.ref c, .int v1, .int v2] σ (f_Sh_holdRow c v1 v2 σ) := by
  unfold f_Sh_holdRow
  refine C.of (by decide +kernel) (Nat.le_of_ble_eq_true rfl) (L := [some (.ref c), some (.int v1), some (.int v2)]) rfl ?_
  refine S.of1 (pc2 := 1) (fun Q => g_aload_n d_Sh_holdRow_0 rfl) ?_
  refine S.of1 (pc2 := 4) (fun Q => g_getr fl_RX8_11 (gq_8_0 hc) d_Sh_holdRow_1) ?_
  refine S.of1 (pc2 := 5) (fun Q => g_lconst (v := (0 : Int64)) d_Sh_holdRow_4 (by decide)) ?_
  refine S.call_wV (pc3 := 8) rfl (c_JA_fillJ (d - 1) (by omega) 60 (by decide) (c + 1) (gp_8_0 hc) (0 : Int64) σ) (fun Q => g_callS (M2 := m_JA_fillJ) (vs := [.ref (c + 1), .long (0 : Int64)]) (st := []) ls_RX8_22 rfl (Nat.le_of_ble_eq_true rfl) (by omega) (Nat.le_of_ble_eq_true rfl) rfl d_Sh_holdRow_5) (fun s1 => ?_)
  refine S.of1 (pc2 := 9) (fun Q => g_aload_n d_Sh_holdRow_8 rfl) ?_
  refine S.of1 (pc2 := 10) (fun Q => g_iconst (v := (2 : Int32)) d_Sh_holdRow_9 (by decide)) ?_
  refine S.of1 (pc2 := 13) (fun Q => g_puti fl_RX8_15 (gq_8_1 hc) rfl rfl d_Sh_holdRow_10) ?_
  refine S.gup (fun s2 => ?_)
  refine S.of1 (pc2 := 14) (fun Q => g_aload_n d_Sh_holdRow_13 rfl) ?_
  refine S.of1 (pc2 := 15) (fun Q => g_iload_n d_Sh_holdRow_14 rfl) ?_
  refine S.of1 (pc2 := 18) (fun Q => g_puti fl_RX8_28 (gq_8_3 hc) rfl rfl d_Sh_holdRow_15) ?_
  refine S.gup (fun s3 => ?_)
  refine S.of1 (pc2 := 19) (fun Q => g_aload_n d_Sh_holdRow_18 rfl) ?_
  refine S.of1 (pc2 := 20) (fun Q => g_iload_n d_Sh_holdRow_19 rfl) ?_
  refine S.of1 (pc2 := 23) (fun Q => g_puti fl_RX8_31 (gq_8_4 hc) rfl rfl d_Sh_holdRow_20) ?_
  refine S.gup (fun s4 => ?_)
  exact S.ret (fun Q hq => g_vret rfl d_Sh_holdRow_23 hq)
def f_T_row (v1 : Int32) (v2 : Int32) (v3 : Int32) (σ : gS) : Option (Int32 × gS) :=
  (f_T_within v1 (6 : Int32)).bind fun q1 => if q1 = 0 then some ((-1 : Int32), σ) else (f_T_within v2 (5 : Int32)).bind fun q3 => if q3 = 0 then some ((-1 : Int32), σ) else if v3 ≤ (60 : Int32) then if 0 ≤ v3 then if gix v1 6 then (f_Sh_holdRow (gshc v1) v2 v3 σ).bind fun s8 => some ((1 : Int32), s8) else none else some ((-14 : Int32), σ) else some ((-1 : Int32), σ)
theorem c_T_row (d : Nat) (hd : 3 ≤ d) (v1 : Int32) (v2 : Int32) (v3 : Int32) (σ : gS) : C wI d m_T_row [.ref 0, .int v1, .int v2, .int v3] σ (f_T_row v1 v2 v3 σ) := by
  unfold f_T_row
  refine C.of (by decide +kernel) (Nat.le_of_ble_eq_true rfl) (L := [some (.ref 0), some (.int v1), some (.int v2), some (.int v3)]) rfl ?_
  refine S.of1 (pc2 := 1) (fun Q => g_iload_n d_T_row_0 rfl) ?_
  refine S.of1 (pc2 := 3) (fun Q => g_bipush (v := (6 : Int32)) d_T_row_1 (by decide)) ?_
  refine S.call_rI (pc3 := 6) rfl (c_T_within (d - 1) (by omega) v1 (6 : Int32) σ) (fun Q => g_callS (M2 := m_T_within) (vs := [.int v1, .int (6 : Int32)]) (st := []) ls_RX10_72 rfl (Nat.le_of_ble_eq_true rfl) (by omega) (Nat.le_of_ble_eq_true rfl) rfl d_T_row_3) (fun q1 => ?_)
  refine S.br (c := q1 = 0) (t := 23) (e := 9) (fun Q kt kf => g_if_eq d_T_row_6 rfl kt kf) (fun h2 => ?_) (fun h2 => ?_)
  · refine S.of1 (pc2 := 24) (fun Q => g_iconst (v := (-1 : Int32)) d_T_row_23 (by decide)) ?_
    exact S.ret (fun Q hq => g_iret rfl d_T_row_24 hq)
  · refine S.of1 (pc2 := 10) (fun Q => g_iload_n d_T_row_9 rfl) ?_
    refine S.of1 (pc2 := 11) (fun Q => g_iconst (v := (5 : Int32)) d_T_row_10 (by decide)) ?_
    refine S.call_rI (pc3 := 14) rfl (c_T_within (d - 1) (by omega) v2 (5 : Int32) σ) (fun Q => g_callS (M2 := m_T_within) (vs := [.int v2, .int (5 : Int32)]) (st := []) ls_RX10_72 rfl (Nat.le_of_ble_eq_true rfl) (by omega) (Nat.le_of_ble_eq_true rfl) rfl d_T_row_11) (fun q3 => ?_)
    refine S.br (c := q3 = 0) (t := 23) (e := 17) (fun Q kt kf => g_if_eq d_T_row_14 rfl kt kf) (fun h4 => ?_) (fun h4 => ?_)
    · refine S.of1 (pc2 := 24) (fun Q => g_iconst (v := (-1 : Int32)) d_T_row_23 (by decide)) ?_
      exact S.ret (fun Q hq => g_iret rfl d_T_row_24 hq)
    · refine S.of1 (pc2 := 18) (fun Q => g_iload_n d_T_row_17 rfl) ?_
      refine S.of1 (pc2 := 20) (fun Q => g_bipush (v := (60 : Int32)) d_T_row_18 (by decide)) ?_
      refine S.br (c := v3 ≤ (60 : Int32)) (t := 25) (e := 23) (fun Q kt kf => g_icmp_le d_T_row_20 rfl kt kf) (fun h5 => ?_) (fun h5 => ?_)
      · refine S.of1 (pc2 := 26) (fun Q => g_iload_n d_T_row_25 rfl) ?_
        refine S.br (c := 0 ≤ v3) (t := 32) (e := 29) (fun Q kt kf => g_if_ge d_T_row_26 rfl kt kf) (fun h6 => ?_) (fun h6 => ?_)
        · refine S.of1 (pc2 := 33) (fun Q => g_aload_n d_T_row_32 rfl) ?_
          refine S.of1 (pc2 := 36) (fun Q => g_getr fl_RX10_67 gc_0_8 d_T_row_33) ?_
          refine S.of1 (pc2 := 37) (fun Q => g_iload_n d_T_row_36 rfl) ?_
          refine S.chk (fun h7 => ?_)
          refine S.of1 (pc2 := 38) (fun Q => g_aald gra_46 (gix_in h7) (gsh_get h7) d_T_row_37) ?_
          refine S.of1 (pc2 := 39) (fun Q => g_iload_n d_T_row_38 rfl) ?_
          refine S.of1 (pc2 := 40) (fun Q => g_iload_n d_T_row_39 rfl) ?_
          refine S.call_wV (pc3 := 43) rfl (c_Sh_holdRow (d - 1) (by omega) (gshc v1) (gsh_cls h7) v2 v3 σ) (fun Q => g_callV (M2 := m_Sh_holdRow) (vs := [.int v2, .int v3]) (st := []) lv_RX10_327 (gsh_cls h7) rfl rfl (Nat.le_of_ble_eq_true rfl) (by omega) (Nat.le_of_ble_eq_true rfl) rfl d_T_row_40) (fun s8 => ?_)
          refine S.of1 (pc2 := 44) (fun Q => g_iconst (v := (1 : Int32)) d_T_row_43 (by decide)) ?_
          exact S.ret (fun Q hq => g_iret rfl d_T_row_44 hq)
        · refine S.of1 (pc2 := 31) (fun Q => g_bipush (v := (-14 : Int32)) d_T_row_29 (by decide)) ?_
          exact S.ret (fun Q hq => g_iret rfl d_T_row_31 hq)
      · refine S.of1 (pc2 := 24) (fun Q => g_iconst (v := (-1 : Int32)) d_T_row_23 (by decide)) ?_
        exact S.ret (fun Q hq => g_iret rfl d_T_row_24 hq)
def f_Sh_kept (c : Nat) (v1 : Int64) (σ : gS) : Option Int64 :=
  if (σ.1 c 3) = (0 : Int32) then some (((v1.toInt32).toInt8.toInt32).toInt64) else if (σ.1 c 3) = (1 : Int32) then some (((v1.toInt32).toInt16.toInt32).toInt64) else if (σ.1 c 3) = (2 : Int32) then some ((v1.toInt32).toInt64) else if (σ.1 c 3) = (3 : Int32) then some v1 else if (lg_cmp v1 (0 : Int64)) = 0 then some (0 : Int64) else some (1 : Int64)
theorem c_Sh_kept (d : Nat) (hd : 1 ≤ d) (c : Nat) (hc : gcls c = some 8) (v1 : Int64) (σ : gS) : C (rJ σ) d m_Sh_kept [.ref c, .long v1] σ (f_Sh_kept c v1 σ) := by
  unfold f_Sh_kept
  refine C.of (by decide +kernel) (Nat.le_of_ble_eq_true rfl) (L := [some (.ref c), some (.long v1), none]) rfl ?_
  refine S.of1 (pc2 := 1) (fun Q => g_aload_n d_Sh_kept_0 rfl) ?_
  refine S.of1 (pc2 := 4) (fun Q => g_geti fl_RX8_28 (gq_8_3 hc) d_Sh_kept_1) ?_
  refine S.cs (c := (σ.1 c 3) = (0 : Int32)) (fun h1 => ?_) (fun h1 => ?_)
  · refine S.of1 (pc2 := 36) (fun Q => g_tableIn (off := 32) d_Sh_kept_4 (by rw [h1]; decide) (by rw [h1]; decide) (by rw [h1]; rfl) rfl) ?_
    refine S.of1 (pc2 := 37) (fun Q => g_lload_n d_Sh_kept_36 rfl) ?_
    refine S.of1 (pc2 := 38) (fun Q => g_l2i d_Sh_kept_37) ?_
    refine S.of1 (pc2 := 39) (fun Q => g_i2b d_Sh_kept_38) ?_
    refine S.of1 (pc2 := 40) (fun Q => g_i2l d_Sh_kept_39) ?_
    exact S.ret (fun Q hq => g_lret rfl d_Sh_kept_40 hq)
  · refine S.cs (c := (σ.1 c 3) = (1 : Int32)) (fun h2 => ?_) (fun h2 => ?_)
    · refine S.of1 (pc2 := 41) (fun Q => g_tableIn (off := 37) d_Sh_kept_4 (by rw [h2]; decide) (by rw [h2]; decide) (by rw [h2]; rfl) rfl) ?_
      refine S.of1 (pc2 := 42) (fun Q => g_lload_n d_Sh_kept_41 rfl) ?_
      refine S.of1 (pc2 := 43) (fun Q => g_l2i d_Sh_kept_42) ?_
      refine S.of1 (pc2 := 44) (fun Q => g_i2s d_Sh_kept_43) ?_
      refine S.of1 (pc2 := 45) (fun Q => g_i2l d_Sh_kept_44) ?_
      exact S.ret (fun Q hq => g_lret rfl d_Sh_kept_45 hq)
    · refine S.cs (c := (σ.1 c 3) = (2 : Int32)) (fun h3 => ?_) (fun h3 => ?_)
      · refine S.of1 (pc2 := 46) (fun Q => g_tableIn (off := 42) d_Sh_kept_4 (by rw [h3]; decide) (by rw [h3]; decide) (by rw [h3]; rfl) rfl) ?_
        refine S.of1 (pc2 := 47) (fun Q => g_lload_n d_Sh_kept_46 rfl) ?_
        refine S.of1 (pc2 := 48) (fun Q => g_l2i d_Sh_kept_47) ?_
        refine S.of1 (pc2 := 49) (fun Q => g_i2l d_Sh_kept_48) ?_
        exact S.ret (fun Q hq => g_lret rfl d_Sh_kept_49 hq)
      · refine S.cs (c := (σ.1 c 3) = (3 : Int32)) (fun h4 => ?_) (fun h4 => ?_)
        · refine S.of1 (pc2 := 50) (fun Q => g_tableIn (off := 46) d_Sh_kept_4 (by rw [h4]; decide) (by rw [h4]; decide) (by rw [h4]; rfl) rfl) ?_
          refine S.of1 (pc2 := 51) (fun Q => g_lload_n d_Sh_kept_50 rfl) ?_
          exact S.ret (fun Q hq => g_lret rfl d_Sh_kept_51 hq)
        · refine S.of1 (pc2 := 52) (fun Q => g_tableOut d_Sh_kept_4 (by have a0 := lv_neT h1 (a := 0) (by decide); have a1 := lv_neT h2 (a := 1) (by decide); have a2 := lv_neT h3 (a := 2) (by decide); have a3 := lv_neT h4 (a := 3) (by decide); omega) rfl) ?_
          refine S.of1 (pc2 := 53) (fun Q => g_lload_n d_Sh_kept_52 rfl) ?_
          refine S.of1 (pc2 := 54) (fun Q => g_lconst (v := (0 : Int64)) d_Sh_kept_53 (by decide)) ?_
          refine S.of1 (pc2 := 55) (fun Q => g_lcmp d_Sh_kept_54) ?_
          refine S.br (c := (lg_cmp v1 (0 : Int64)) = 0) (t := 62) (e := 58) (fun Q kt kf => g_if_eq d_Sh_kept_55 rfl kt kf) (fun h5 => ?_) (fun h5 => ?_)
          · refine S.of1 (pc2 := 63) (fun Q => g_lconst (v := (0 : Int64)) d_Sh_kept_62 (by decide)) ?_
            exact S.ret (fun Q hq => g_lret rfl d_Sh_kept_63 hq)
          · refine S.of1 (pc2 := 59) (fun Q => g_lconst (v := (1 : Int64)) d_Sh_kept_58 (by decide)) ?_
            refine S.of1 (pc2 := 63) (fun Q => g_goto d_Sh_kept_59 rfl) ?_
            exact S.ret (fun Q hq => g_lret rfl d_Sh_kept_63 hq)
def f_T_put (v1 : Int32) (v2 : Int32) (v3 : Int64) (σ : gS) : Option (Int32 × gS) :=
  (f_T_within v1 (6 : Int32)).bind fun q1 => if q1 = 0 then some ((-1 : Int32), σ) else if gix v1 6 then if (σ.1 (gshc v1) 1) = (2 : Int32) then (f_Sh_has (gshc v1) v2 (1 : Int32) σ).bind fun q5 => if q5 = 0 then some ((-13 : Int32), σ) else (f_Sh_kept (gshc v1) v3 σ).bind fun q7 => if gix v2 60 then gup (gpl σ ((gshc v1) + 1) v2.toNatClampNeg q7) fun s9 => some ((1 : Int32), s9) else none else (f_Sh_refusal (gshc v1) σ).bind fun q10 => some (q10, σ) else none
theorem c_T_put (d : Nat) (hd : 2 ≤ d) (v1 : Int32) (v2 : Int32) (v3 : Int64) (σ : gS) : C wI d m_T_put [.ref 0, .int v1, .int v2, .long v3] σ (f_T_put v1 v2 v3 σ) := by
  unfold f_T_put
  refine C.of (by decide +kernel) (Nat.le_of_ble_eq_true rfl) (L := [some (.ref 0), some (.int v1), some (.int v2), some (.long v3), none, none]) rfl ?_
  refine S.of1 (pc2 := 1) (fun Q => g_iload_n d_T_put_0 rfl) ?_
  refine S.of1 (pc2 := 3) (fun Q => g_bipush (v := (6 : Int32)) d_T_put_1 (by decide)) ?_
  refine S.call_rI (pc3 := 6) rfl (c_T_within (d - 1) (by omega) v1 (6 : Int32) σ) (fun Q => g_callS (M2 := m_T_within) (vs := [.int v1, .int (6 : Int32)]) (st := []) ls_RX10_72 rfl (Nat.le_of_ble_eq_true rfl) (by omega) (Nat.le_of_ble_eq_true rfl) rfl d_T_put_3) (fun q1 => ?_)
  refine S.br (c := q1 = 0) (t := 9) (e := 11) (fun Q kt kf => g_if_ne d_T_put_6 rfl kf kt) (fun h2 => ?_) (fun h2 => ?_)
  · refine S.of1 (pc2 := 10) (fun Q => g_iconst (v := (-1 : Int32)) d_T_put_9 (by decide)) ?_
    exact S.ret (fun Q hq => g_iret rfl d_T_put_10 hq)
  · refine S.of1 (pc2 := 12) (fun Q => g_aload_n d_T_put_11 rfl) ?_
    refine S.of1 (pc2 := 15) (fun Q => g_getr fl_RX10_67 gc_0_8 d_T_put_12) ?_
    refine S.of1 (pc2 := 16) (fun Q => g_iload_n d_T_put_15 rfl) ?_
    refine S.chk (fun h3 => ?_)
    refine S.of1 (pc2 := 17) (fun Q => g_aald gra_46 (gix_in h3) (gsh_get h3) d_T_put_16) ?_
    refine S.of1 (pc2 := 19) (L2 := [some (.ref 0), some (.int v1), some (.int v2), some (.long v3), none, some (.ref (gshc v1))]) (fun Q => g_astore d_T_put_17 (Nat.le_of_ble_eq_true rfl) rfl) ?_
    refine S.of1 (pc2 := 21) (fun Q => g_aload d_T_put_19 rfl) ?_
    refine S.of1 (pc2 := 24) (fun Q => g_geti fl_RX10_80 (gq_8_1 (gsh_cls h3)) d_T_put_21) ?_
    refine S.of1 (pc2 := 25) (fun Q => g_iconst (v := (2 : Int32)) d_T_put_24 (by decide)) ?_
    refine S.br (c := (σ.1 (gshc v1) 1) = (2 : Int32)) (t := 34) (e := 28) (fun Q kt kf => g_icmp_eq d_T_put_25 rfl kt kf) (fun h4 => ?_) (fun h4 => ?_)
    · refine S.of1 (pc2 := 36) (fun Q => g_aload d_T_put_34 rfl) ?_
      refine S.of1 (pc2 := 37) (fun Q => g_iload_n d_T_put_36 rfl) ?_
      refine S.of1 (pc2 := 38) (fun Q => g_iconst (v := (1 : Int32)) d_T_put_37 (by decide)) ?_
      refine S.call_rI (pc3 := 41) rfl (c_Sh_has (d - 1) (by omega) (gshc v1) (gsh_cls h3) v2 (1 : Int32) σ) (fun Q => g_callV (M2 := m_Sh_has) (vs := [.int v2, .int (1 : Int32)]) (st := []) lv_RX10_88 (gsh_cls h3) rfl rfl (Nat.le_of_ble_eq_true rfl) (by omega) (Nat.le_of_ble_eq_true rfl) rfl d_T_put_38) (fun q5 => ?_)
      refine S.br (c := q5 = 0) (t := 44) (e := 47) (fun Q kt kf => g_if_ne d_T_put_41 rfl kf kt) (fun h6 => ?_) (fun h6 => ?_)
      · refine S.of1 (pc2 := 46) (fun Q => g_bipush (v := (-13 : Int32)) d_T_put_44 (by decide)) ?_
        exact S.ret (fun Q hq => g_iret rfl d_T_put_46 hq)
      · refine S.of1 (pc2 := 49) (fun Q => g_aload d_T_put_47 rfl) ?_
        refine S.of1 (pc2 := 52) (fun Q => g_getr fl_RX10_330 (gq_8_0 (gsh_cls h3)) d_T_put_49) ?_
        refine S.of1 (pc2 := 53) (fun Q => g_iload_n d_T_put_52 rfl) ?_
        refine S.of1 (pc2 := 55) (fun Q => g_aload d_T_put_53 rfl) ?_
        refine S.of1 (pc2 := 56) (fun Q => g_lload_n d_T_put_55 rfl) ?_
        refine S.call_rJ (pc3 := 59) rfl (c_Sh_kept (d - 1) (by omega) (gshc v1) (gsh_cls h3) v3 σ) (fun Q => g_callV (M2 := m_Sh_kept) (vs := [.long v3]) (st := [.int v2, .ref ((gshc v1) + 1)]) lv_RX10_334 (gsh_cls h3) rfl rfl (Nat.le_of_ble_eq_true rfl) (by omega) (Nat.le_of_ble_eq_true rfl) rfl d_T_put_56) (fun q7 => ?_)
        refine S.chk (fun h8 => ?_)
        refine S.of1 (pc2 := 60) (fun Q => g_last (gp_8_0 (gsh_cls h3)) (gix_in h8) d_T_put_59) ?_
        refine S.gup (fun s9 => ?_)
        refine S.of1 (pc2 := 61) (fun Q => g_iconst (v := (1 : Int32)) d_T_put_60 (by decide)) ?_
        exact S.ret (fun Q hq => g_iret rfl d_T_put_61 hq)
    · refine S.of1 (pc2 := 30) (fun Q => g_aload d_T_put_28 rfl) ?_
      refine S.call_rI (pc3 := 33) rfl (c_Sh_refusal (d - 1) (by omega) (gshc v1) (gsh_cls h3) σ) (fun Q => g_callV (M2 := m_Sh_refusal) (vs := []) (st := []) lv_RX10_146 (gsh_cls h3) rfl rfl (Nat.le_of_ble_eq_true rfl) (by omega) (Nat.le_of_ble_eq_true rfl) rfl d_T_put_30) (fun q10 => ?_)
      exact S.ret (fun Q hq => g_iret rfl d_T_put_33 hq)
def f_T_element (v1 : Int32) (v2 : Int32) (σ : gS) : Option Int64 :=
  (f_T_within v1 (6 : Int32)).bind fun q1 => if q1 = 0 then some (-9223372036854775808 : Int64) else if gix v1 6 then if (σ.1 (gshc v1) 1) = (2 : Int32) then if gix v1 6 then (f_Sh_has (gshc v1) v2 (1 : Int32) σ).bind fun q6 => if q6 = 0 then some (-9223372036854775808 : Int64) else if gix v1 6 then if gix v2 60 then some (σ.2 ((gshc v1) + 1) v2.toNatClampNeg) else none else none else none else some (-9223372036854775808 : Int64) else none
theorem c_T_element (d : Nat) (hd : 2 ≤ d) (v1 : Int32) (v2 : Int32) (σ : gS) : C (rJ σ) d m_T_element [.ref 0, .int v1, .int v2] σ (f_T_element v1 v2 σ) := by
  unfold f_T_element
  refine C.of (by decide +kernel) (Nat.le_of_ble_eq_true rfl) (L := [some (.ref 0), some (.int v1), some (.int v2)]) rfl ?_
  refine S.of1 (pc2 := 1) (fun Q => g_iload_n d_T_element_0 rfl) ?_
  refine S.of1 (pc2 := 3) (fun Q => g_bipush (v := (6 : Int32)) d_T_element_1 (by decide)) ?_
  refine S.call_rI (pc3 := 6) rfl (c_T_within (d - 1) (by omega) v1 (6 : Int32) σ) (fun Q => g_callS (M2 := m_T_within) (vs := [.int v1, .int (6 : Int32)]) (st := []) ls_RX10_72 rfl (Nat.le_of_ble_eq_true rfl) (by omega) (Nat.le_of_ble_eq_true rfl) rfl d_T_element_3) (fun q1 => ?_)
  refine S.br (c := q1 = 0) (t := 36) (e := 9) (fun Q kt kf => g_if_eq d_T_element_6 rfl kt kf) (fun h2 => ?_) (fun h2 => ?_)
  · refine S.of1 (pc2 := 39) (fun Q => g_ldc2 (v := (-9223372036854775808 : Int64)) d_T_element_36 w_870) ?_
    exact S.ret (fun Q hq => g_lret rfl d_T_element_39 hq)
  · refine S.of1 (pc2 := 10) (fun Q => g_aload_n d_T_element_9 rfl) ?_
    refine S.of1 (pc2 := 13) (fun Q => g_getr fl_RX10_67 gc_0_8 d_T_element_10) ?_
    refine S.of1 (pc2 := 14) (fun Q => g_iload_n d_T_element_13 rfl) ?_
    refine S.chk (fun h3 => ?_)
    refine S.of1 (pc2 := 15) (fun Q => g_aald gra_46 (gix_in h3) (gsh_get h3) d_T_element_14) ?_
    refine S.of1 (pc2 := 18) (fun Q => g_geti fl_RX10_80 (gq_8_1 (gsh_cls h3)) d_T_element_15) ?_
    refine S.of1 (pc2 := 19) (fun Q => g_iconst (v := (2 : Int32)) d_T_element_18 (by decide)) ?_
    refine S.br (c := (σ.1 (gshc v1) 1) = (2 : Int32)) (t := 22) (e := 36) (fun Q kt kf => g_icmp_ne d_T_element_19 rfl kf kt) (fun h4 => ?_) (fun h4 => ?_)
    · refine S.of1 (pc2 := 23) (fun Q => g_aload_n d_T_element_22 rfl) ?_
      refine S.of1 (pc2 := 26) (fun Q => g_getr fl_RX10_67 gc_0_8 d_T_element_23) ?_
      refine S.of1 (pc2 := 27) (fun Q => g_iload_n d_T_element_26 rfl) ?_
      refine S.chk (fun h5 => ?_)
      refine S.of1 (pc2 := 28) (fun Q => g_aald gra_46 (gix_in h5) (gsh_get h5) d_T_element_27) ?_
      refine S.of1 (pc2 := 29) (fun Q => g_iload_n d_T_element_28 rfl) ?_
      refine S.of1 (pc2 := 30) (fun Q => g_iconst (v := (1 : Int32)) d_T_element_29 (by decide)) ?_
      refine S.call_rI (pc3 := 33) rfl (c_Sh_has (d - 1) (by omega) (gshc v1) (gsh_cls h5) v2 (1 : Int32) σ) (fun Q => g_callV (M2 := m_Sh_has) (vs := [.int v2, .int (1 : Int32)]) (st := []) lv_RX10_88 (gsh_cls h5) rfl rfl (Nat.le_of_ble_eq_true rfl) (by omega) (Nat.le_of_ble_eq_true rfl) rfl d_T_element_30) (fun q6 => ?_)
      refine S.br (c := q6 = 0) (t := 36) (e := 40) (fun Q kt kf => g_if_ne d_T_element_33 rfl kf kt) (fun h7 => ?_) (fun h7 => ?_)
      · refine S.of1 (pc2 := 39) (fun Q => g_ldc2 (v := (-9223372036854775808 : Int64)) d_T_element_36 w_870) ?_
        exact S.ret (fun Q hq => g_lret rfl d_T_element_39 hq)
      · refine S.of1 (pc2 := 41) (fun Q => g_aload_n d_T_element_40 rfl) ?_
        refine S.of1 (pc2 := 44) (fun Q => g_getr fl_RX10_67 gc_0_8 d_T_element_41) ?_
        refine S.of1 (pc2 := 45) (fun Q => g_iload_n d_T_element_44 rfl) ?_
        refine S.chk (fun h8 => ?_)
        refine S.of1 (pc2 := 46) (fun Q => g_aald gra_46 (gix_in h8) (gsh_get h8) d_T_element_45) ?_
        refine S.of1 (pc2 := 49) (fun Q => g_getr fl_RX10_330 (gq_8_0 (gsh_cls h8)) d_T_element_46) ?_
        refine S.of1 (pc2 := 50) (fun Q => g_iload_n d_T_element_49 rfl) ?_
        refine S.chk (fun h9 => ?_)
        refine S.of1 (pc2 := 51) (fun Q => g_lald (gp_8_0 (gsh_cls h8)) (gix_in h9) d_T_element_50) ?_
        exact S.ret (fun Q hq => g_lret rfl d_T_element_51 hq)
    · refine S.of1 (pc2 := 39) (fun Q => g_ldc2 (v := (-9223372036854775808 : Int64)) d_T_element_36 w_870) ?_
      exact S.ret (fun Q hq => g_lret rfl d_T_element_39 hq)
def f_T_shift (v1 : Int32) (v2 : Int32) (v3 : Int32) (v4 : Int32) (v5 : Int32) (σ : gS) : Option (Int32 × gS) :=
  (f_T_within v1 (6 : Int32)).bind fun q1 => if q1 = 0 then some ((-1 : Int32), σ) else (f_T_within v3 (6 : Int32)).bind fun q3 => if q3 = 0 then some ((-1 : Int32), σ) else if gix v1 6 then if gix v3 6 then if (σ.1 (gshc v1) 1) = 0 then some ((-11 : Int32), σ) else if (σ.1 (gshc v3) 1) = 0 then some ((-11 : Int32), σ) else if (σ.1 (gshc v1) 1) = (2 : Int32) then if (σ.1 (gshc v3) 1) = (2 : Int32) then if (σ.1 (gshc v1) 3) = (σ.1 (gshc v3) 3) then (f_Sh_has (gshc v1) v2 v5 σ).bind fun q12 => if q12 = 0 then some ((-13 : Int32), σ) else (f_Sh_has (gshc v3) v4 v5 σ).bind fun q14 => if q14 = 0 then some ((-13 : Int32), σ) else if gcpy v2 v4 v5 60 60 then gup (gsl σ ((gshc v3) + 1) (va_cpy (σ.2 ((gshc v1) + 1)) (σ.2 ((gshc v3) + 1)) v2.toNatClampNeg v4.toNatClampNeg v5.toNatClampNeg)) fun s17 => some (v5, s17) else none else some ((-12 : Int32), σ) else some ((-12 : Int32), σ) else some ((-12 : Int32), σ) else none else none
theorem c_T_shift (d : Nat) (hd : 2 ≤ d) (v1 : Int32) (v2 : Int32) (v3 : Int32) (v4 : Int32) (v5 : Int32) (σ : gS) : C wI d m_T_shift [.ref 0, .int v1, .int v2, .int v3, .int v4, .int v5] σ (f_T_shift v1 v2 v3 v4 v5 σ) := by
  unfold f_T_shift
  refine C.of (by decide +kernel) (Nat.le_of_ble_eq_true rfl) (L := [some (.ref 0), some (.int v1), some (.int v2), some (.int v3), some (.int v4), some (.int v5), none, none]) rfl ?_
  refine S.of1 (pc2 := 1) (fun Q => g_iload_n d_T_shift_0 rfl) ?_
  refine S.of1 (pc2 := 3) (fun Q => g_bipush (v := (6 : Int32)) d_T_shift_1 (by decide)) ?_
  refine S.call_rI (pc3 := 6) rfl (c_T_within (d - 1) (by omega) v1 (6 : Int32) σ) (fun Q => g_callS (M2 := m_T_within) (vs := [.int v1, .int (6 : Int32)]) (st := []) ls_RX10_72 rfl (Nat.le_of_ble_eq_true rfl) (by omega) (Nat.le_of_ble_eq_true rfl) rfl d_T_shift_3) (fun q1 => ?_)
  refine S.br (c := q1 = 0) (t := 18) (e := 9) (fun Q kt kf => g_if_eq d_T_shift_6 rfl kt kf) (fun h2 => ?_) (fun h2 => ?_)
  · refine S.of1 (pc2 := 19) (fun Q => g_iconst (v := (-1 : Int32)) d_T_shift_18 (by decide)) ?_
    exact S.ret (fun Q hq => g_iret rfl d_T_shift_19 hq)
  · refine S.of1 (pc2 := 10) (fun Q => g_iload_n d_T_shift_9 rfl) ?_
    refine S.of1 (pc2 := 12) (fun Q => g_bipush (v := (6 : Int32)) d_T_shift_10 (by decide)) ?_
    refine S.call_rI (pc3 := 15) rfl (c_T_within (d - 1) (by omega) v3 (6 : Int32) σ) (fun Q => g_callS (M2 := m_T_within) (vs := [.int v3, .int (6 : Int32)]) (st := []) ls_RX10_72 rfl (Nat.le_of_ble_eq_true rfl) (by omega) (Nat.le_of_ble_eq_true rfl) rfl d_T_shift_12) (fun q3 => ?_)
    refine S.br (c := q3 = 0) (t := 18) (e := 20) (fun Q kt kf => g_if_ne d_T_shift_15 rfl kf kt) (fun h4 => ?_) (fun h4 => ?_)
    · refine S.of1 (pc2 := 19) (fun Q => g_iconst (v := (-1 : Int32)) d_T_shift_18 (by decide)) ?_
      exact S.ret (fun Q hq => g_iret rfl d_T_shift_19 hq)
    · refine S.of1 (pc2 := 21) (fun Q => g_aload_n d_T_shift_20 rfl) ?_
      refine S.of1 (pc2 := 24) (fun Q => g_getr fl_RX10_67 gc_0_8 d_T_shift_21) ?_
      refine S.of1 (pc2 := 25) (fun Q => g_iload_n d_T_shift_24 rfl) ?_
      refine S.chk (fun h5 => ?_)
      refine S.of1 (pc2 := 26) (fun Q => g_aald gra_46 (gix_in h5) (gsh_get h5) d_T_shift_25) ?_
      refine S.of1 (pc2 := 28) (L2 := [some (.ref 0), some (.int v1), some (.int v2), some (.int v3), some (.int v4), some (.int v5), some (.ref (gshc v1)), none]) (fun Q => g_astore d_T_shift_26 (Nat.le_of_ble_eq_true rfl) rfl) ?_
      refine S.of1 (pc2 := 29) (fun Q => g_aload_n d_T_shift_28 rfl) ?_
      refine S.of1 (pc2 := 32) (fun Q => g_getr fl_RX10_67 gc_0_8 d_T_shift_29) ?_
      refine S.of1 (pc2 := 33) (fun Q => g_iload_n d_T_shift_32 rfl) ?_
      refine S.chk (fun h6 => ?_)
      refine S.of1 (pc2 := 34) (fun Q => g_aald gra_46 (gix_in h6) (gsh_get h6) d_T_shift_33) ?_
      refine S.of1 (pc2 := 36) (L2 := [some (.ref 0), some (.int v1), some (.int v2), some (.int v3), some (.int v4), some (.int v5), some (.ref (gshc v1)), some (.ref (gshc v3))]) (fun Q => g_astore d_T_shift_34 (Nat.le_of_ble_eq_true rfl) rfl) ?_
      refine S.of1 (pc2 := 38) (fun Q => g_aload d_T_shift_36 rfl) ?_
      refine S.of1 (pc2 := 41) (fun Q => g_geti fl_RX10_80 (gq_8_1 (gsh_cls h5)) d_T_shift_38) ?_
      refine S.br (c := (σ.1 (gshc v1) 1) = 0) (t := 52) (e := 44) (fun Q kt kf => g_if_eq d_T_shift_41 rfl kt kf) (fun h7 => ?_) (fun h7 => ?_)
      · refine S.of1 (pc2 := 54) (fun Q => g_bipush (v := (-11 : Int32)) d_T_shift_52 (by decide)) ?_
        exact S.ret (fun Q hq => g_iret rfl d_T_shift_54 hq)
      · refine S.of1 (pc2 := 46) (fun Q => g_aload d_T_shift_44 rfl) ?_
        refine S.of1 (pc2 := 49) (fun Q => g_geti fl_RX10_80 (gq_8_1 (gsh_cls h6)) d_T_shift_46) ?_
        refine S.br (c := (σ.1 (gshc v3) 1) = 0) (t := 52) (e := 55) (fun Q kt kf => g_if_ne d_T_shift_49 rfl kf kt) (fun h8 => ?_) (fun h8 => ?_)
        · refine S.of1 (pc2 := 54) (fun Q => g_bipush (v := (-11 : Int32)) d_T_shift_52 (by decide)) ?_
          exact S.ret (fun Q hq => g_iret rfl d_T_shift_54 hq)
        · refine S.of1 (pc2 := 57) (fun Q => g_aload d_T_shift_55 rfl) ?_
          refine S.of1 (pc2 := 60) (fun Q => g_geti fl_RX10_80 (gq_8_1 (gsh_cls h5)) d_T_shift_57) ?_
          refine S.of1 (pc2 := 61) (fun Q => g_iconst (v := (2 : Int32)) d_T_shift_60 (by decide)) ?_
          refine S.br (c := (σ.1 (gshc v1) 1) = (2 : Int32)) (t := 64) (e := 86) (fun Q kt kf => g_icmp_ne d_T_shift_61 rfl kf kt) (fun h9 => ?_) (fun h9 => ?_)
          · refine S.of1 (pc2 := 66) (fun Q => g_aload d_T_shift_64 rfl) ?_
            refine S.of1 (pc2 := 69) (fun Q => g_geti fl_RX10_80 (gq_8_1 (gsh_cls h6)) d_T_shift_66) ?_
            refine S.of1 (pc2 := 70) (fun Q => g_iconst (v := (2 : Int32)) d_T_shift_69 (by decide)) ?_
            refine S.br (c := (σ.1 (gshc v3) 1) = (2 : Int32)) (t := 73) (e := 86) (fun Q kt kf => g_icmp_ne d_T_shift_70 rfl kf kt) (fun h10 => ?_) (fun h10 => ?_)
            · refine S.of1 (pc2 := 75) (fun Q => g_aload d_T_shift_73 rfl) ?_
              refine S.of1 (pc2 := 78) (fun Q => g_geti fl_RX10_338 (gq_8_3 (gsh_cls h5)) d_T_shift_75) ?_
              refine S.of1 (pc2 := 80) (fun Q => g_aload d_T_shift_78 rfl) ?_
              refine S.of1 (pc2 := 83) (fun Q => g_geti fl_RX10_338 (gq_8_3 (gsh_cls h6)) d_T_shift_80) ?_
              refine S.br (c := (σ.1 (gshc v1) 3) = (σ.1 (gshc v3) 3)) (t := 89) (e := 86) (fun Q kt kf => g_icmp_eq d_T_shift_83 rfl kt kf) (fun h11 => ?_) (fun h11 => ?_)
              · refine S.of1 (pc2 := 91) (fun Q => g_aload d_T_shift_89 rfl) ?_
                refine S.of1 (pc2 := 92) (fun Q => g_iload_n d_T_shift_91 rfl) ?_
                refine S.of1 (pc2 := 94) (fun Q => g_iload d_T_shift_92 rfl) ?_
                refine S.call_rI (pc3 := 97) rfl (c_Sh_has (d - 1) (by omega) (gshc v1) (gsh_cls h5) v2 v5 σ) (fun Q => g_callV (M2 := m_Sh_has) (vs := [.int v2, .int v5]) (st := []) lv_RX10_88 (gsh_cls h5) rfl rfl (Nat.le_of_ble_eq_true rfl) (by omega) (Nat.le_of_ble_eq_true rfl) rfl d_T_shift_94) (fun q12 => ?_)
                refine S.br (c := q12 = 0) (t := 112) (e := 100) (fun Q kt kf => g_if_eq d_T_shift_97 rfl kt kf) (fun h13 => ?_) (fun h13 => ?_)
                · refine S.of1 (pc2 := 114) (fun Q => g_bipush (v := (-13 : Int32)) d_T_shift_112 (by decide)) ?_
                  exact S.ret (fun Q hq => g_iret rfl d_T_shift_114 hq)
                · refine S.of1 (pc2 := 102) (fun Q => g_aload d_T_shift_100 rfl) ?_
                  refine S.of1 (pc2 := 104) (fun Q => g_iload d_T_shift_102 rfl) ?_
                  refine S.of1 (pc2 := 106) (fun Q => g_iload d_T_shift_104 rfl) ?_
                  refine S.call_rI (pc3 := 109) rfl (c_Sh_has (d - 1) (by omega) (gshc v3) (gsh_cls h6) v4 v5 σ) (fun Q => g_callV (M2 := m_Sh_has) (vs := [.int v4, .int v5]) (st := []) lv_RX10_88 (gsh_cls h6) rfl rfl (Nat.le_of_ble_eq_true rfl) (by omega) (Nat.le_of_ble_eq_true rfl) rfl d_T_shift_106) (fun q14 => ?_)
                  refine S.br (c := q14 = 0) (t := 112) (e := 115) (fun Q kt kf => g_if_ne d_T_shift_109 rfl kf kt) (fun h15 => ?_) (fun h15 => ?_)
                  · refine S.of1 (pc2 := 114) (fun Q => g_bipush (v := (-13 : Int32)) d_T_shift_112 (by decide)) ?_
                    exact S.ret (fun Q hq => g_iret rfl d_T_shift_114 hq)
                  · refine S.of1 (pc2 := 117) (fun Q => g_aload d_T_shift_115 rfl) ?_
                    refine S.of1 (pc2 := 120) (fun Q => g_getr fl_RX10_330 (gq_8_0 (gsh_cls h5)) d_T_shift_117) ?_
                    refine S.of1 (pc2 := 121) (fun Q => g_iload_n d_T_shift_120 rfl) ?_
                    refine S.of1 (pc2 := 123) (fun Q => g_aload d_T_shift_121 rfl) ?_
                    refine S.of1 (pc2 := 126) (fun Q => g_getr fl_RX10_330 (gq_8_0 (gsh_cls h6)) d_T_shift_123) ?_
                    refine S.of1 (pc2 := 128) (fun Q => g_iload d_T_shift_126 rfl) ?_
                    refine S.of1 (pc2 := 130) (fun Q => g_iload d_T_shift_128 rfl) ?_
                    refine S.chk (fun h16 => ?_)
                    refine S.of1 (pc2 := 133) (fun Q => g_copyl w_1116 gMcp_ok (gp_8_0 (gsh_cls h5)) (gp_8_0 (gsh_cls h6)) (gcpy1 h16) (gcpy2 h16) (gcpy3 h16) (gcpy4 h16) (gcpy5 h16) (by omega) (Nat.le_of_ble_eq_true rfl) d_T_shift_130) ?_
                    refine S.gup (fun s17 => ?_)
                    refine S.of1 (pc2 := 135) (fun Q => g_iload d_T_shift_133 rfl) ?_
                    exact S.ret (fun Q hq => g_iret rfl d_T_shift_135 hq)
              · refine S.of1 (pc2 := 88) (fun Q => g_bipush (v := (-12 : Int32)) d_T_shift_86 (by decide)) ?_
                exact S.ret (fun Q hq => g_iret rfl d_T_shift_88 hq)
            · refine S.of1 (pc2 := 88) (fun Q => g_bipush (v := (-12 : Int32)) d_T_shift_86 (by decide)) ?_
              exact S.ret (fun Q hq => g_iret rfl d_T_shift_88 hq)
          · refine S.of1 (pc2 := 88) (fun Q => g_bipush (v := (-12 : Int32)) d_T_shift_86 (by decide)) ?_
            exact S.ret (fun Q hq => g_iret rfl d_T_shift_88 hq)
def f_Wo_isUnder_j58 (σ : gS) (v2 : Int32) (v3 : Int32) : Option Int32 :=
  if v3 = v2 then some (1 : Int32) else some (0 : Int32)
theorem s_Wo_isUnder_j58 (d : Nat) (hd : 2 ≤ d) (σ : gS) (v2 : Int32) (v3 : Int32) : S (rI σ) m_Wo_isUnder d 58 [none, none, some (.int v2), some (.int v3), none] [] σ (f_Wo_isUnder_j58 σ v2 v3) := by
  unfold f_Wo_isUnder_j58
  refine S.of1 (pc2 := 59) (fun Q => g_iload_n d_Wo_isUnder_58 rfl) ?_
  refine S.of1 (pc2 := 60) (fun Q => g_iload_n d_Wo_isUnder_59 rfl) ?_
  refine S.br (c := v3 = v2) (t := 63) (e := 67) (fun Q kt kf => g_icmp_ne d_Wo_isUnder_60 rfl kf kt) (fun h4 => ?_) (fun h4 => ?_)
  · refine S.of1 (pc2 := 64) (fun Q => g_iconst (v := (1 : Int32)) d_Wo_isUnder_63 (by decide)) ?_
    refine S.of1 (pc2 := 68) (fun Q => g_goto d_Wo_isUnder_64 rfl) ?_
    exact S.ret (fun Q hq => g_zret rfl rfl d_Wo_isUnder_68 hq)
  · refine S.of1 (pc2 := 68) (fun Q => g_iconst (v := (0 : Int32)) d_Wo_isUnder_67 (by decide)) ?_
    exact S.ret (fun Q hq => g_zret rfl rfl d_Wo_isUnder_68 hq)
def f_Wo_isUnder_L25 (σ : gS) : Nat → Int32 → Int32 → Int32 → Option Int32
  | 0, _, _, _ => none
  | n + 1, v2, v3, v4 =>
  if (8 : Int32) ≤ v4 then f_Wo_isUnder_j58 σ v2 v3 else if v3 = v2 then f_Wo_isUnder_j58 σ v2 v3 else (f_T_within v3 (8 : Int32)).bind fun q6 => if q6 = 0 then f_Wo_isUnder_j58 σ v2 v3 else if gix v3 8 then glt (tb_ABOVE.getD v3.toNatClampNeg 0) fun x9 => (fun v2 v3 v4 => f_Wo_isUnder_L25 σ n v2 v3 v4) v2 x9 (v4 + (1 : Int32)) else none
theorem s_Wo_isUnder_L25 (d : Nat) (hd : 2 ≤ d) (σ : gS) : ∀ (n : Nat) (v2 : Int32) (v3 : Int32) (v4 : Int32), S (rI σ) m_Wo_isUnder d 25 [none, none, some (.int v2), some (.int v3), some (.int v4)] [] σ (f_Wo_isUnder_L25 σ n v2 v3 v4) := by
  intro n
  induction n with
  | zero =>
    intros
    unfold f_Wo_isUnder_L25
    exact S.no
  | succ n ih =>
    intro v2 v3 v4
    unfold f_Wo_isUnder_L25
    refine S.of1 (pc2 := 27) (fun Q => g_iload d_Wo_isUnder_25 rfl) ?_
    refine S.of1 (pc2 := 29) (fun Q => g_bipush (v := (8 : Int32)) d_Wo_isUnder_27 (by decide)) ?_
    refine S.br (c := (8 : Int32) ≤ v4) (t := 58) (e := 32) (fun Q kt kf => g_icmp_ge d_Wo_isUnder_29 rfl kt kf) (fun h3 => ?_) (fun h3 => ?_)
    · exact S.wk (L2 := [none, none, some (.int v2), some (.int v3), none]) (And.intro rfl (And.intro rfl trivial)) (s_Wo_isUnder_j58 d hd σ v2 v3)
    · refine S.of1 (pc2 := 33) (fun Q => g_iload_n d_Wo_isUnder_32 rfl) ?_
      refine S.of1 (pc2 := 34) (fun Q => g_iload_n d_Wo_isUnder_33 rfl) ?_
      refine S.br (c := v3 = v2) (t := 58) (e := 37) (fun Q kt kf => g_icmp_eq d_Wo_isUnder_34 rfl kt kf) (fun h5 => ?_) (fun h5 => ?_)
      · exact S.wk (L2 := [none, none, some (.int v2), some (.int v3), none]) (And.intro rfl (And.intro rfl trivial)) (s_Wo_isUnder_j58 d hd σ v2 v3)
      · refine S.of1 (pc2 := 38) (fun Q => g_iload_n d_Wo_isUnder_37 rfl) ?_
        refine S.of1 (pc2 := 40) (fun Q => g_bipush (v := (8 : Int32)) d_Wo_isUnder_38 (by decide)) ?_
        refine S.call_rI (pc3 := 43) rfl (c_T_within (d - 1) (by omega) v3 (8 : Int32) σ) (fun Q => g_callSN (M2 := m_T_within) (vs := [.int v3, .int (8 : Int32)]) (st := []) ln_RX9_22 rfl (Nat.le_of_ble_eq_true rfl) (by omega) (Nat.le_of_ble_eq_true rfl) rfl d_Wo_isUnder_40) (fun q6 => ?_)
        refine S.br (c := q6 = 0) (t := 58) (e := 46) (fun Q kt kf => g_if_eq d_Wo_isUnder_43 rfl kt kf) (fun h7 => ?_) (fun h7 => ?_)
        · exact S.wk (L2 := [none, none, some (.int v2), some (.int v3), none]) (And.intro rfl (And.intro rfl trivial)) (s_Wo_isUnder_j58 d hd σ v2 v3)
        · refine S.of1 (pc2 := 49) (fun Q => g_gets q_ABOVE (List.mem_of_getElem? (i := 2) rfl) w_1071 d_Wo_isUnder_46) ?_
          refine S.of1 (pc2 := 50) (fun Q => g_iload_n d_Wo_isUnder_49 rfl) ?_
          refine S.chk (fun h8 => ?_)
          refine S.of1 (pc2 := 51) (fun Q => g_tald q_ABOVE (List.mem_of_getElem? (i := 2) rfl) (gix_in h8) d_Wo_isUnder_50) ?_
          refine S.of1 (pc2 := 52) (L2 := [none, none, some (.int v2), some (.int (tb_ABOVE.getD v3.toNatClampNeg 0)), some (.int v4)]) (fun Q => g_istore_n d_Wo_isUnder_51 (Nat.le_of_ble_eq_true rfl) rfl) ?_
          refine S.glt (x := (tb_ABOVE.getD v3.toNatClampNeg 0)) (Lf := fun y => [none, none, some (.int v2), some (.int y), some (.int v4)]) (fun x9 => ?_)
          refine S.of1 (pc2 := 55) (L2 := [none, none, some (.int v2), some (.int x9), some (.int (v4 + (1 : Int32)))]) (fun Q => g_iinc d_Wo_isUnder_52 rfl (congrArg (fun z => v4 + z) (by decide)) (Nat.le_of_ble_eq_true rfl) rfl) ?_
          refine S.of1 (pc2 := 25) (fun Q => g_goto d_Wo_isUnder_55 rfl) ?_
          exact S.wk (L2 := [none, none, some (.int v2), some (.int x9), some (.int (v4 + (1 : Int32)))]) (And.intro rfl (And.intro rfl (And.intro rfl trivial))) (ih v2 x9 (v4 + (1 : Int32)))
def f_Wo_isUnder_j21 (σ : gS) (v2 : Int32) (s0 : Int32) : Option Int32 :=
  f_Wo_isUnder_L25 σ gfu v2 s0 (0 : Int32)
theorem s_Wo_isUnder_j21 (d : Nat) (hd : 2 ≤ d) (σ : gS) (v2 : Int32) (s0 : Int32) : S (rI σ) m_Wo_isUnder d 21 [none, none, some (.int v2), none, none] [.int s0] σ (f_Wo_isUnder_j21 σ v2 s0) := by
  unfold f_Wo_isUnder_j21
  refine S.of1 (pc2 := 22) (L2 := [none, none, some (.int v2), some (.int s0), none]) (fun Q => g_istore_n d_Wo_isUnder_21 (Nat.le_of_ble_eq_true rfl) rfl) ?_
  refine S.of1 (pc2 := 23) (fun Q => g_iconst (v := (0 : Int32)) d_Wo_isUnder_22 (by decide)) ?_
  refine S.of1 (pc2 := 25) (L2 := [none, none, some (.int v2), some (.int s0), some (.int (0 : Int32))]) (fun Q => g_istore d_Wo_isUnder_23 (Nat.le_of_ble_eq_true rfl) rfl) ?_
  exact S.wk (L2 := [none, none, some (.int v2), some (.int s0), some (.int (0 : Int32))]) (And.intro rfl (And.intro rfl (And.intro rfl trivial))) (s_Wo_isUnder_L25 d hd σ gfu v2 s0 (0 : Int32))
def f_Wo_isUnder (v1 : Int32) (v2 : Int32) (σ : gS) : Option Int32 :=
  (f_T_within v1 (σ.1 43 2)).bind fun q1 => if q1 = 0 then f_Wo_isUnder_j21 σ v2 (-1 : Int32) else if gix v1 50 then f_Wo_isUnder_j21 σ v2 (σ.1 44 v1.toNatClampNeg) else none
theorem c_Wo_isUnder (d : Nat) (hd : 2 ≤ d) (v1 : Int32) (v2 : Int32) (σ : gS) : C (rI σ) d m_Wo_isUnder [.ref 43, .int v1, .int v2] σ (f_Wo_isUnder v1 v2 σ) := by
  unfold f_Wo_isUnder
  refine C.of (by decide +kernel) (Nat.le_of_ble_eq_true rfl) (L := [some (.ref 43), some (.int v1), some (.int v2), none, none]) rfl ?_
  refine S.of1 (pc2 := 1) (fun Q => g_iload_n d_Wo_isUnder_0 rfl) ?_
  refine S.of1 (pc2 := 2) (fun Q => g_aload_n d_Wo_isUnder_1 rfl) ?_
  refine S.of1 (pc2 := 5) (fun Q => g_geti fl_RX9_18 gc_43_2 d_Wo_isUnder_2) ?_
  refine S.call_rI (pc3 := 8) rfl (c_T_within (d - 1) (by omega) v1 (σ.1 43 2) σ) (fun Q => g_callSN (M2 := m_T_within) (vs := [.int v1, .int (σ.1 43 2)]) (st := []) ln_RX9_22 rfl (Nat.le_of_ble_eq_true rfl) (by omega) (Nat.le_of_ble_eq_true rfl) rfl d_Wo_isUnder_5) (fun q1 => ?_)
  refine S.br (c := q1 = 0) (t := 20) (e := 11) (fun Q kt kf => g_if_eq d_Wo_isUnder_8 rfl kt kf) (fun h2 => ?_) (fun h2 => ?_)
  · refine S.of1 (pc2 := 21) (fun Q => g_iconst (v := (-1 : Int32)) d_Wo_isUnder_20 (by decide)) ?_
    exact S.wk (L2 := [none, none, some (.int v2), none, none]) (And.intro rfl trivial) (s_Wo_isUnder_j21 d hd σ v2 (-1 : Int32))
  · refine S.of1 (pc2 := 12) (fun Q => g_aload_n d_Wo_isUnder_11 rfl) ?_
    refine S.of1 (pc2 := 15) (fun Q => g_getr fl_RX9_11 gc_43_0 d_Wo_isUnder_12) ?_
    refine S.of1 (pc2 := 16) (fun Q => g_iload_n d_Wo_isUnder_15 rfl) ?_
    refine S.chk (fun h10 => ?_)
    refine S.of1 (pc2 := 17) (fun Q => g_iald ga_44 (gix_in h10) d_Wo_isUnder_16) ?_
    refine S.of1 (pc2 := 21) (fun Q => g_goto d_Wo_isUnder_17 rfl) ?_
    exact S.wk (L2 := [none, none, some (.int v2), none, none]) (And.intro rfl trivial) (s_Wo_isUnder_j21 d hd σ v2 (σ.1 44 v1.toNatClampNeg))
def f_T_taken_j50 (σ : gS) (q3 : Nat) : Option Int32 :=
  (f_Sh_refusal q3 σ).bind fun q9 => some q9
theorem s_T_taken_j50 (d : Nat) (hd : 3 ≤ d) (σ : gS) (q3 : Nat) (hq3 : gcls q3 = some 8) : S (rI σ) m_T_taken d 50 [none, none, none, some (.ref q3)] [] σ (f_T_taken_j50 σ q3) := by
  unfold f_T_taken_j50
  refine S.of1 (pc2 := 51) (fun Q => g_aload_n d_T_taken_50 rfl) ?_
  refine S.call_rI (pc3 := 54) rfl (c_Sh_refusal (d - 1) (by omega) q3 hq3 σ) (fun Q => g_callV (M2 := m_Sh_refusal) (vs := []) (st := []) lv_RX10_146 hq3 rfl rfl (Nat.le_of_ble_eq_true rfl) (by omega) (Nat.le_of_ble_eq_true rfl) rfl d_T_taken_51) (fun q9 => ?_)
  exact S.ret (fun Q hq => g_iret rfl d_T_taken_54 hq)
def f_T_taken (v1 : Int32) (v2 : Int32) (σ : gS) : Option Int32 :=
  (f_T_within v1 (6 : Int32)).bind fun q1 => if q1 = 0 then some (-1 : Int32) else (f_T_within v2 (8 : Int32)).bind fun q3 => if q3 = 0 then some (-1 : Int32) else if gix v1 6 then if (σ.1 (gshc v1) 1) = (1 : Int32) then (f_Wo_isUnder (σ.1 (gshc v1) 2) v2 σ).bind fun q7 => if q7 = 0 then f_T_taken_j50 σ (gshc v1) else if gix (σ.1 (gshc v1) 2) 50 then some (σ.1 44 (σ.1 (gshc v1) 2).toNatClampNeg) else none else f_T_taken_j50 σ (gshc v1) else none
theorem c_T_taken (d : Nat) (hd : 3 ≤ d) (v1 : Int32) (v2 : Int32) (σ : gS) : C (rI σ) d m_T_taken [.ref 0, .int v1, .int v2] σ (f_T_taken v1 v2 σ) := by
  unfold f_T_taken
  refine C.of (by decide +kernel) (Nat.le_of_ble_eq_true rfl) (L := [some (.ref 0), some (.int v1), some (.int v2), none]) rfl ?_
  refine S.of1 (pc2 := 1) (fun Q => g_iload_n d_T_taken_0 rfl) ?_
  refine S.of1 (pc2 := 3) (fun Q => g_bipush (v := (6 : Int32)) d_T_taken_1 (by decide)) ?_
  refine S.call_rI (pc3 := 6) rfl (c_T_within (d - 1) (by omega) v1 (6 : Int32) σ) (fun Q => g_callS (M2 := m_T_within) (vs := [.int v1, .int (6 : Int32)]) (st := []) ls_RX10_72 rfl (Nat.le_of_ble_eq_true rfl) (by omega) (Nat.le_of_ble_eq_true rfl) rfl d_T_taken_3) (fun q1 => ?_)
  refine S.br (c := q1 = 0) (t := 18) (e := 9) (fun Q kt kf => g_if_eq d_T_taken_6 rfl kt kf) (fun h2 => ?_) (fun h2 => ?_)
  · refine S.of1 (pc2 := 19) (fun Q => g_iconst (v := (-1 : Int32)) d_T_taken_18 (by decide)) ?_
    exact S.ret (fun Q hq => g_iret rfl d_T_taken_19 hq)
  · refine S.of1 (pc2 := 10) (fun Q => g_iload_n d_T_taken_9 rfl) ?_
    refine S.of1 (pc2 := 12) (fun Q => g_bipush (v := (8 : Int32)) d_T_taken_10 (by decide)) ?_
    refine S.call_rI (pc3 := 15) rfl (c_T_within (d - 1) (by omega) v2 (8 : Int32) σ) (fun Q => g_callS (M2 := m_T_within) (vs := [.int v2, .int (8 : Int32)]) (st := []) ls_RX10_72 rfl (Nat.le_of_ble_eq_true rfl) (by omega) (Nat.le_of_ble_eq_true rfl) rfl d_T_taken_12) (fun q3 => ?_)
    refine S.br (c := q3 = 0) (t := 18) (e := 20) (fun Q kt kf => g_if_ne d_T_taken_15 rfl kf kt) (fun h4 => ?_) (fun h4 => ?_)
    · refine S.of1 (pc2 := 19) (fun Q => g_iconst (v := (-1 : Int32)) d_T_taken_18 (by decide)) ?_
      exact S.ret (fun Q hq => g_iret rfl d_T_taken_19 hq)
    · refine S.of1 (pc2 := 21) (fun Q => g_aload_n d_T_taken_20 rfl) ?_
      refine S.of1 (pc2 := 24) (fun Q => g_getr fl_RX10_67 gc_0_8 d_T_taken_21) ?_
      refine S.of1 (pc2 := 25) (fun Q => g_iload_n d_T_taken_24 rfl) ?_
      refine S.chk (fun h5 => ?_)
      refine S.of1 (pc2 := 26) (fun Q => g_aald gra_46 (gix_in h5) (gsh_get h5) d_T_taken_25) ?_
      refine S.of1 (pc2 := 27) (L2 := [some (.ref 0), some (.int v1), some (.int v2), some (.ref (gshc v1))]) (fun Q => g_astore_n d_T_taken_26 (Nat.le_of_ble_eq_true rfl) rfl) ?_
      refine S.of1 (pc2 := 28) (fun Q => g_aload_n d_T_taken_27 rfl) ?_
      refine S.of1 (pc2 := 31) (fun Q => g_geti fl_RX10_80 (gq_8_1 (gsh_cls h5)) d_T_taken_28) ?_
      refine S.of1 (pc2 := 32) (fun Q => g_iconst (v := (1 : Int32)) d_T_taken_31 (by decide)) ?_
      refine S.br (c := (σ.1 (gshc v1) 1) = (1 : Int32)) (t := 35) (e := 50) (fun Q kt kf => g_icmp_ne d_T_taken_32 rfl kf kt) (fun h6 => ?_) (fun h6 => ?_)
      · refine S.of1 (pc2 := 36) (fun Q => g_aload_n d_T_taken_35 rfl) ?_
        refine S.of1 (pc2 := 39) (fun Q => g_getr fl_RX10_61 gc_0_7 d_T_taken_36) ?_
        refine S.of1 (pc2 := 40) (fun Q => g_aload_n d_T_taken_39 rfl) ?_
        refine S.of1 (pc2 := 43) (fun Q => g_geti fl_RX10_347 (gq_8_2 (gsh_cls h5)) d_T_taken_40) ?_
        refine S.of1 (pc2 := 44) (fun Q => g_iload_n d_T_taken_43 rfl) ?_
        refine S.call_rI (pc3 := 47) rfl (c_Wo_isUnder (d - 1) (by omega) (σ.1 (gshc v1) 2) v2 σ) (fun Q => g_callV (M2 := m_Wo_isUnder) (vs := [.int (σ.1 (gshc v1) 2), .int v2]) (st := []) lv_RX10_350 gk_43 rfl rfl (Nat.le_of_ble_eq_true rfl) (by omega) (Nat.le_of_ble_eq_true rfl) rfl d_T_taken_44) (fun q7 => ?_)
        refine S.br (c := q7 = 0) (t := 50) (e := 55) (fun Q kt kf => g_if_ne d_T_taken_47 rfl kf kt) (fun h8 => ?_) (fun h8 => ?_)
        · exact S.wk (L2 := [none, none, none, some (.ref (gshc v1))]) (And.intro rfl trivial) (s_T_taken_j50 d hd σ (gshc v1) (gsh_cls h5))
        · refine S.of1 (pc2 := 56) (fun Q => g_aload_n d_T_taken_55 rfl) ?_
          refine S.of1 (pc2 := 59) (fun Q => g_getr fl_RX10_61 gc_0_7 d_T_taken_56) ?_
          refine S.of1 (pc2 := 62) (fun Q => g_getr fl_RX10_353 gc_43_0 d_T_taken_59) ?_
          refine S.of1 (pc2 := 63) (fun Q => g_aload_n d_T_taken_62 rfl) ?_
          refine S.of1 (pc2 := 66) (fun Q => g_geti fl_RX10_347 (gq_8_2 (gsh_cls h5)) d_T_taken_63) ?_
          refine S.chk (fun h10 => ?_)
          refine S.of1 (pc2 := 67) (fun Q => g_iald ga_44 (gix_in h10) d_T_taken_66) ?_
          exact S.ret (fun Q hq => g_iret rfl d_T_taken_67 hq)
      · exact S.wk (L2 := [none, none, none, some (.ref (gshc v1))]) (And.intro rfl trivial) (s_T_taken_j50 d hd σ (gshc v1) (gsh_cls h5))
def f_T_count (v1 : Int32) (σ : gS) : Option Int32 :=
  if v1 = (0 : Int32) then some (σ.1 1 6) else if v1 = (1 : Int32) then (f_JI_bitCount (σ.1 36 1)).bind fun q3 => some q3 else if v1 = (2 : Int32) then some (σ.1 27 3) else if v1 = (3 : Int32) then some (σ.1 31 4) else if v1 = (4 : Int32) then some (σ.1 43 2) else if v1 = (5 : Int32) then some (σ.1 43 3) else some (-1 : Int32)
theorem c_T_count (d : Nat) (hd : 2 ≤ d) (v1 : Int32) (σ : gS) : C (rI σ) d m_T_count [.ref 0, .int v1] σ (f_T_count v1 σ) := by
  unfold f_T_count
  refine C.of (by decide +kernel) (Nat.le_of_ble_eq_true rfl) (L := [some (.ref 0), some (.int v1)]) rfl ?_
  refine S.of1 (pc2 := 1) (fun Q => g_iload_n d_T_count_0 rfl) ?_
  refine S.cs (c := v1 = (0 : Int32)) (fun h1 => ?_) (fun h1 => ?_)
  · refine S.of1 (pc2 := 40) (fun Q => g_tableIn (off := 39) d_T_count_1 (by rw [h1]; decide) (by rw [h1]; decide) (by rw [h1]; rfl) rfl) ?_
    refine S.of1 (pc2 := 41) (fun Q => g_aload_n d_T_count_40 rfl) ?_
    refine S.of1 (pc2 := 44) (fun Q => g_getr fl_RX10_10 gc_0_0 d_T_count_41) ?_
    refine S.of1 (pc2 := 47) (fun Q => g_geti fl_RX10_126 gc_1_6 d_T_count_44) ?_
    exact S.ret (fun Q hq => g_iret rfl d_T_count_47 hq)
  · refine S.cs (c := v1 = (1 : Int32)) (fun h2 => ?_) (fun h2 => ?_)
    · refine S.of1 (pc2 := 48) (fun Q => g_tableIn (off := 47) d_T_count_1 (by rw [h2]; decide) (by rw [h2]; decide) (by rw [h2]; rfl) rfl) ?_
      refine S.of1 (pc2 := 49) (fun Q => g_aload_n d_T_count_48 rfl) ?_
      refine S.of1 (pc2 := 52) (fun Q => g_getr fl_RX10_47 gc_0_5 d_T_count_49) ?_
      refine S.of1 (pc2 := 55) (fun Q => g_geti fl_RX10_256 gc_36_1 d_T_count_52) ?_
      refine S.call_rI (pc3 := 58) rfl (c_JI_bitCount (d - 1) (by omega) (σ.1 36 1) σ) (fun Q => g_callS (M2 := m_JI_bitCount) (vs := [.int (σ.1 36 1)]) (st := []) ls_RX10_155 rfl (Nat.le_of_ble_eq_true rfl) (by omega) (Nat.le_of_ble_eq_true rfl) rfl d_T_count_55) (fun q3 => ?_)
      exact S.ret (fun Q hq => g_iret rfl d_T_count_58 hq)
    · refine S.cs (c := v1 = (2 : Int32)) (fun h4 => ?_) (fun h4 => ?_)
      · refine S.of1 (pc2 := 59) (fun Q => g_tableIn (off := 58) d_T_count_1 (by rw [h4]; decide) (by rw [h4]; decide) (by rw [h4]; rfl) rfl) ?_
        refine S.of1 (pc2 := 60) (fun Q => g_aload_n d_T_count_59 rfl) ?_
        refine S.of1 (pc2 := 63) (fun Q => g_getr fl_RX10_33 gc_0_3 d_T_count_60) ?_
        refine S.of1 (pc2 := 66) (fun Q => g_geti fl_RX10_356 gc_27_3 d_T_count_63) ?_
        exact S.ret (fun Q hq => g_iret rfl d_T_count_66 hq)
      · refine S.cs (c := v1 = (3 : Int32)) (fun h5 => ?_) (fun h5 => ?_)
        · refine S.of1 (pc2 := 67) (fun Q => g_tableIn (off := 66) d_T_count_1 (by rw [h5]; decide) (by rw [h5]; decide) (by rw [h5]; rfl) rfl) ?_
          refine S.of1 (pc2 := 68) (fun Q => g_aload_n d_T_count_67 rfl) ?_
          refine S.of1 (pc2 := 71) (fun Q => g_getr fl_RX10_40 gc_0_4 d_T_count_68) ?_
          refine S.of1 (pc2 := 74) (fun Q => g_geti fl_RX10_298 gc_31_4 d_T_count_71) ?_
          exact S.ret (fun Q hq => g_iret rfl d_T_count_74 hq)
        · refine S.cs (c := v1 = (4 : Int32)) (fun h6 => ?_) (fun h6 => ?_)
          · refine S.of1 (pc2 := 75) (fun Q => g_tableIn (off := 74) d_T_count_1 (by rw [h6]; decide) (by rw [h6]; decide) (by rw [h6]; rfl) rfl) ?_
            refine S.of1 (pc2 := 76) (fun Q => g_aload_n d_T_count_75 rfl) ?_
            refine S.of1 (pc2 := 79) (fun Q => g_getr fl_RX10_61 gc_0_7 d_T_count_76) ?_
            refine S.of1 (pc2 := 82) (fun Q => g_geti fl_RX10_322 gc_43_2 d_T_count_79) ?_
            exact S.ret (fun Q hq => g_iret rfl d_T_count_82 hq)
          · refine S.cs (c := v1 = (5 : Int32)) (fun h7 => ?_) (fun h7 => ?_)
            · refine S.of1 (pc2 := 83) (fun Q => g_tableIn (off := 82) d_T_count_1 (by rw [h7]; decide) (by rw [h7]; decide) (by rw [h7]; rfl) rfl) ?_
              refine S.of1 (pc2 := 84) (fun Q => g_aload_n d_T_count_83 rfl) ?_
              refine S.of1 (pc2 := 87) (fun Q => g_getr fl_RX10_61 gc_0_7 d_T_count_84) ?_
              refine S.of1 (pc2 := 90) (fun Q => g_geti fl_RX10_316 gc_43_3 d_T_count_87) ?_
              exact S.ret (fun Q hq => g_iret rfl d_T_count_90 hq)
            · refine S.of1 (pc2 := 91) (fun Q => g_tableOut d_T_count_1 (by have a0 := lv_neT h1 (a := 0) (by decide); have a1 := lv_neT h2 (a := 1) (by decide); have a2 := lv_neT h4 (a := 2) (by decide); have a3 := lv_neT h5 (a := 3) (by decide); have a4 := lv_neT h6 (a := 4) (by decide); have a5 := lv_neT h7 (a := 5) (by decide); omega) rfl) ?_
              refine S.of1 (pc2 := 92) (fun Q => g_iconst (v := (-1 : Int32)) d_T_count_91 (by decide)) ?_
              exact S.ret (fun Q hq => g_iret rfl d_T_count_92 hq)
def f_M_within (v0 : Int64) (v2 : Int64) (v4 : Int64) : Option Int32 :=
  if (lg_cmp v0 v2) < 0 then some (0 : Int32) else if 0 < (lg_cmp v0 v4) then some (0 : Int32) else some (1 : Int32)
theorem c_M_within (d : Nat) (hd : 1 ≤ d) (v0 : Int64) (v2 : Int64) (v4 : Int64) (σ : gS) : C (rI σ) d m_M_within [.long v0, .long v2, .long v4] σ (f_M_within v0 v2 v4) := by
  unfold f_M_within
  refine C.of (by decide +kernel) (Nat.le_of_ble_eq_true rfl) (L := [some (.long v0), none, some (.long v2), none, some (.long v4), none]) rfl ?_
  refine S.of1 (pc2 := 1) (fun Q => g_lload_n d_M_within_0 rfl) ?_
  refine S.of1 (pc2 := 2) (fun Q => g_lload_n d_M_within_1 rfl) ?_
  refine S.of1 (pc2 := 3) (fun Q => g_lcmp d_M_within_2) ?_
  refine S.br (c := (lg_cmp v0 v2) < 0) (t := 17) (e := 6) (fun Q kt kf => g_if_lt d_M_within_3 rfl kt kf) (fun h1 => ?_) (fun h1 => ?_)
  · refine S.of1 (pc2 := 18) (fun Q => g_iconst (v := (0 : Int32)) d_M_within_17 (by decide)) ?_
    exact S.ret (fun Q hq => g_zret rfl rfl d_M_within_18 hq)
  · refine S.of1 (pc2 := 7) (fun Q => g_lload_n d_M_within_6 rfl) ?_
    refine S.of1 (pc2 := 9) (fun Q => g_lload d_M_within_7 rfl) ?_
    refine S.of1 (pc2 := 10) (fun Q => g_lcmp d_M_within_9) ?_
    refine S.br (c := 0 < (lg_cmp v0 v4)) (t := 17) (e := 13) (fun Q kt kf => g_if_gt d_M_within_10 rfl kt kf) (fun h2 => ?_) (fun h2 => ?_)
    · refine S.of1 (pc2 := 18) (fun Q => g_iconst (v := (0 : Int32)) d_M_within_17 (by decide)) ?_
      exact S.ret (fun Q hq => g_zret rfl rfl d_M_within_18 hq)
    · refine S.of1 (pc2 := 14) (fun Q => g_iconst (v := (1 : Int32)) d_M_within_13 (by decide)) ?_
      refine S.of1 (pc2 := 18) (fun Q => g_goto d_M_within_14 rfl) ?_
      exact S.ret (fun Q hq => g_zret rfl rfl d_M_within_18 hq)
def f_M_isIn (v0 : Int32) (v1 : Int32) : Option Int32 :=
  if ((v0 >>> (v1 &&& 31)) &&& (1 : Int32)) = (1 : Int32) then some (1 : Int32) else some (0 : Int32)
theorem c_M_isIn (d : Nat) (hd : 1 ≤ d) (v0 : Int32) (v1 : Int32) (σ : gS) : C (rI σ) d m_M_isIn [.int v0, .int v1] σ (f_M_isIn v0 v1) := by
  unfold f_M_isIn
  refine C.of (by decide +kernel) (Nat.le_of_ble_eq_true rfl) (L := [some (.int v0), some (.int v1)]) rfl ?_
  refine S.of1 (pc2 := 1) (fun Q => g_iload_n d_M_isIn_0 rfl) ?_
  refine S.of1 (pc2 := 2) (fun Q => g_iload_n d_M_isIn_1 rfl) ?_
  refine S.of1 (pc2 := 3) (fun Q => g_ishr d_M_isIn_2) ?_
  refine S.of1 (pc2 := 4) (fun Q => g_iconst (v := (1 : Int32)) d_M_isIn_3 (by decide)) ?_
  refine S.of1 (pc2 := 5) (fun Q => g_iand d_M_isIn_4) ?_
  refine S.of1 (pc2 := 6) (fun Q => g_iconst (v := (1 : Int32)) d_M_isIn_5 (by decide)) ?_
  refine S.br (c := ((v0 >>> (v1 &&& 31)) &&& (1 : Int32)) = (1 : Int32)) (t := 9) (e := 13) (fun Q kt kf => g_icmp_ne d_M_isIn_6 rfl kf kt) (fun h1 => ?_) (fun h1 => ?_)
  · refine S.of1 (pc2 := 10) (fun Q => g_iconst (v := (1 : Int32)) d_M_isIn_9 (by decide)) ?_
    refine S.of1 (pc2 := 14) (fun Q => g_goto d_M_isIn_10 rfl) ?_
    exact S.ret (fun Q hq => g_zret rfl rfl d_M_isIn_14 hq)
  · refine S.of1 (pc2 := 14) (fun Q => g_iconst (v := (0 : Int32)) d_M_isIn_13 (by decide)) ?_
    exact S.ret (fun Q hq => g_zret rfl rfl d_M_isIn_14 hq)
def f_M_bitsOf_L4 : Nat → Int32 → Int32 → Int32 → Option Int32
  | 0, _, _, _ => none
  | n + 1, v0, v1, v2 =>
  if (10 : Int32) ≤ v2 then some v1 else glt (v1 + ((v0 >>> (v2 &&& 31)) &&& (1 : Int32))) fun x2 => (fun v0 v1 v2 => f_M_bitsOf_L4 n v0 v1 v2) v0 x2 (v2 + (1 : Int32))
theorem s_M_bitsOf_L4 (d : Nat) (hd : 1 ≤ d) (σ : gS) : ∀ (n : Nat) (v0 : Int32) (v1 : Int32) (v2 : Int32), S (rI σ) m_M_bitsOf d 4 [some (.int v0), some (.int v1), some (.int v2)] [] σ (f_M_bitsOf_L4 n v0 v1 v2) := by
  intro n
  induction n with
  | zero =>
    intros
    unfold f_M_bitsOf_L4
    exact S.no
  | succ n ih =>
    intro v0 v1 v2
    unfold f_M_bitsOf_L4
    refine S.of1 (pc2 := 5) (fun Q => g_iload_n d_M_bitsOf_4 rfl) ?_
    refine S.of1 (pc2 := 7) (fun Q => g_bipush (v := (10 : Int32)) d_M_bitsOf_5 (by decide)) ?_
    refine S.br (c := (10 : Int32) ≤ v2) (t := 24) (e := 10) (fun Q kt kf => g_icmp_ge d_M_bitsOf_7 rfl kt kf) (fun h1 => ?_) (fun h1 => ?_)
    · refine S.of1 (pc2 := 25) (fun Q => g_iload_n d_M_bitsOf_24 rfl) ?_
      exact S.ret (fun Q hq => g_iret rfl d_M_bitsOf_25 hq)
    · refine S.of1 (pc2 := 11) (fun Q => g_iload_n d_M_bitsOf_10 rfl) ?_
      refine S.of1 (pc2 := 12) (fun Q => g_iload_n d_M_bitsOf_11 rfl) ?_
      refine S.of1 (pc2 := 13) (fun Q => g_iload_n d_M_bitsOf_12 rfl) ?_
      refine S.of1 (pc2 := 14) (fun Q => g_ishr d_M_bitsOf_13) ?_
      refine S.of1 (pc2 := 15) (fun Q => g_iconst (v := (1 : Int32)) d_M_bitsOf_14 (by decide)) ?_
      refine S.of1 (pc2 := 16) (fun Q => g_iand d_M_bitsOf_15) ?_
      refine S.of1 (pc2 := 17) (fun Q => g_iadd d_M_bitsOf_16) ?_
      refine S.of1 (pc2 := 18) (L2 := [some (.int v0), some (.int (v1 + ((v0 >>> (v2 &&& 31)) &&& (1 : Int32)))), some (.int v2)]) (fun Q => g_istore_n d_M_bitsOf_17 (Nat.le_of_ble_eq_true rfl) rfl) ?_
      refine S.glt (x := (v1 + ((v0 >>> (v2 &&& 31)) &&& (1 : Int32)))) (Lf := fun y => [some (.int v0), some (.int y), some (.int v2)]) (fun x2 => ?_)
      refine S.of1 (pc2 := 21) (L2 := [some (.int v0), some (.int x2), some (.int (v2 + (1 : Int32)))]) (fun Q => g_iinc d_M_bitsOf_18 rfl (congrArg (fun z => v2 + z) (by decide)) (Nat.le_of_ble_eq_true rfl) rfl) ?_
      refine S.of1 (pc2 := 4) (fun Q => g_goto d_M_bitsOf_21 rfl) ?_
      exact S.wk (L2 := [some (.int v0), some (.int x2), some (.int (v2 + (1 : Int32)))]) (And.intro rfl (And.intro rfl (And.intro rfl trivial))) (ih v0 x2 (v2 + (1 : Int32)))
def f_M_bitsOf (v0 : Int32) : Option Int32 :=
  f_M_bitsOf_L4 gfu v0 (0 : Int32) (0 : Int32)
theorem c_M_bitsOf (d : Nat) (hd : 1 ≤ d) (v0 : Int32) (σ : gS) : C (rI σ) d m_M_bitsOf [.int v0] σ (f_M_bitsOf v0) := by
  unfold f_M_bitsOf
  refine C.of (by decide +kernel) (Nat.le_of_ble_eq_true rfl) (L := [some (.int v0), none, none]) rfl ?_
  refine S.of1 (pc2 := 1) (fun Q => g_iconst (v := (0 : Int32)) d_M_bitsOf_0 (by decide)) ?_
  refine S.of1 (pc2 := 2) (L2 := [some (.int v0), some (.int (0 : Int32)), none]) (fun Q => g_istore_n d_M_bitsOf_1 (Nat.le_of_ble_eq_true rfl) rfl) ?_
  refine S.of1 (pc2 := 3) (fun Q => g_iconst (v := (0 : Int32)) d_M_bitsOf_2 (by decide)) ?_
  refine S.of1 (pc2 := 4) (L2 := [some (.int v0), some (.int (0 : Int32)), some (.int (0 : Int32))]) (fun Q => g_istore_n d_M_bitsOf_3 (Nat.le_of_ble_eq_true rfl) rfl) ?_
  exact S.wk (L2 := [some (.int v0), some (.int (0 : Int32)), some (.int (0 : Int32))]) (And.intro rfl (And.intro rfl (And.intro rfl trivial))) (s_M_bitsOf_L4 d hd σ gfu v0 (0 : Int32) (0 : Int32))
def f_M_becomes_j97 (v1 : Int32) (v2 : Int32) (v3 : Int32) (σ : gS) : Option (Int32 × gS) :=
  if gix (σ.1 59 5) 40 then gup (gpi σ 61 (σ.1 59 5).toNatClampNeg v1) fun s8 => if gix (s8.1 59 5) 40 then gup (gpi s8 62 (s8.1 59 5).toNatClampNeg v3) fun s10 => if gix (s10.1 59 5) 40 then gup (gpi s10 63 (s10.1 59 5).toNatClampNeg v2) fun s12 => gup (gpi s12 59 5 ((s12.1 59 5) + (1 : Int32))) fun s13 => gup (gpi s13 59 4 (s13.1 59 5)) fun s14 => if gix v1 43 then gup (gpi s14 60 v1.toNatClampNeg v2) fun s16 => some (v3, s16) else none else none else none else none
theorem s_M_becomes_j97 (d : Nat) (hd : 1 ≤ d) (v1 : Int32) (v2 : Int32) (v3 : Int32) (σ : gS) : S wI m_M_becomes d 97 [some (.ref 59), some (.int v1), some (.int v2), some (.int v3), none] [] σ (f_M_becomes_j97 v1 v2 v3 σ) := by
  unfold f_M_becomes_j97
  refine S.of1 (pc2 := 98) (fun Q => g_aload_n d_M_becomes_97 rfl) ?_
  refine S.of1 (pc2 := 101) (fun Q => g_getr fl_RX11_13 gc_59_1 d_M_becomes_98) ?_
  refine S.of1 (pc2 := 102) (fun Q => g_aload_n d_M_becomes_101 rfl) ?_
  refine S.of1 (pc2 := 105) (fun Q => g_geti fl_RX11_75 gc_59_5 d_M_becomes_102) ?_
  refine S.of1 (pc2 := 106) (fun Q => g_iload_n d_M_becomes_105 rfl) ?_
  refine S.chk (fun h7 => ?_)
  refine S.of1 (pc2 := 107) (fun Q => g_iast ga_61 (gix_in h7) d_M_becomes_106) ?_
  refine S.gup (fun s8 => ?_)
  refine S.of1 (pc2 := 108) (fun Q => g_aload_n d_M_becomes_107 rfl) ?_
  refine S.of1 (pc2 := 111) (fun Q => g_getr fl_RX11_16 gc_59_2 d_M_becomes_108) ?_
  refine S.of1 (pc2 := 112) (fun Q => g_aload_n d_M_becomes_111 rfl) ?_
  refine S.of1 (pc2 := 115) (fun Q => g_geti fl_RX11_75 gc_59_5 d_M_becomes_112) ?_
  refine S.of1 (pc2 := 116) (fun Q => g_iload_n d_M_becomes_115 rfl) ?_
  refine S.chk (fun h9 => ?_)
  refine S.of1 (pc2 := 117) (fun Q => g_iast ga_62 (gix_in h9) d_M_becomes_116) ?_
  refine S.gup (fun s10 => ?_)
  refine S.of1 (pc2 := 118) (fun Q => g_aload_n d_M_becomes_117 rfl) ?_
  refine S.of1 (pc2 := 121) (fun Q => g_getr fl_RX11_19 gc_59_3 d_M_becomes_118) ?_
  refine S.of1 (pc2 := 122) (fun Q => g_aload_n d_M_becomes_121 rfl) ?_
  refine S.of1 (pc2 := 125) (fun Q => g_geti fl_RX11_75 gc_59_5 d_M_becomes_122) ?_
  refine S.of1 (pc2 := 126) (fun Q => g_iload_n d_M_becomes_125 rfl) ?_
  refine S.chk (fun h11 => ?_)
  refine S.of1 (pc2 := 127) (fun Q => g_iast ga_63 (gix_in h11) d_M_becomes_126) ?_
  refine S.gup (fun s12 => ?_)
  refine S.of1 (pc2 := 128) (fun Q => g_aload_n d_M_becomes_127 rfl) ?_
  refine S.of1 (pc2 := 129) (fun Q => g_dup d_M_becomes_128 rfl) ?_
  refine S.of1 (pc2 := 132) (fun Q => g_geti fl_RX11_75 gc_59_5 d_M_becomes_129) ?_
  refine S.of1 (pc2 := 133) (fun Q => g_iconst (v := (1 : Int32)) d_M_becomes_132 (by decide)) ?_
  refine S.of1 (pc2 := 134) (fun Q => g_iadd d_M_becomes_133) ?_
  refine S.of1 (pc2 := 137) (fun Q => g_puti fl_RX11_75 gc_59_5 rfl rfl d_M_becomes_134) ?_
  refine S.gup (fun s13 => ?_)
  refine S.of1 (pc2 := 138) (fun Q => g_aload_n d_M_becomes_137 rfl) ?_
  refine S.of1 (pc2 := 139) (fun Q => g_aload_n d_M_becomes_138 rfl) ?_
  refine S.of1 (pc2 := 142) (fun Q => g_geti fl_RX11_75 gc_59_5 d_M_becomes_139) ?_
  refine S.of1 (pc2 := 145) (fun Q => g_puti fl_RX11_78 gc_59_4 rfl rfl d_M_becomes_142) ?_
  refine S.gup (fun s14 => ?_)
  refine S.of1 (pc2 := 146) (fun Q => g_aload_n d_M_becomes_145 rfl) ?_
  refine S.of1 (pc2 := 149) (fun Q => g_getr fl_RX11_9 gc_59_0 d_M_becomes_146) ?_
  refine S.of1 (pc2 := 150) (fun Q => g_iload_n d_M_becomes_149 rfl) ?_
  refine S.of1 (pc2 := 151) (fun Q => g_iload_n d_M_becomes_150 rfl) ?_
  refine S.chk (fun h15 => ?_)
  refine S.of1 (pc2 := 152) (fun Q => g_iast ga_60 (gix_in h15) d_M_becomes_151) ?_
  refine S.gup (fun s16 => ?_)
  refine S.of1 (pc2 := 153) (fun Q => g_iload_n d_M_becomes_152 rfl) ?_
  exact S.ret (fun Q hq => g_iret rfl d_M_becomes_153 hq)
def f_M_becomes_L26 : Nat → Int32 → Int32 → Int32 → Int32 → gS → Option (Int32 × gS)
  | 0, _, _, _, _, _ => none
  | n + 1, v1, v2, v3, v4, σ =>
  if (40 : Int32) ≤ v4 then gup (gpi σ 59 5 ((σ.1 59 5) - (1 : Int32))) fun s6 => f_M_becomes_j97 v1 v2 v3 s6 else if gix v4 40 then if gix (v4 - (1 : Int32)) 40 then gup (gpi σ 61 (v4 - (1 : Int32)).toNatClampNeg (σ.1 61 v4.toNatClampNeg)) fun s19 => if gix v4 40 then if gix (v4 - (1 : Int32)) 40 then gup (gpi s19 62 (v4 - (1 : Int32)).toNatClampNeg (s19.1 62 v4.toNatClampNeg)) fun s22 => if gix v4 40 then if gix (v4 - (1 : Int32)) 40 then gup (gpi s22 63 (v4 - (1 : Int32)).toNatClampNeg (s22.1 63 v4.toNatClampNeg)) fun s25 => (fun v1 v2 v3 v4 σ => f_M_becomes_L26 n v1 v2 v3 v4 σ) v1 v2 v3 (v4 + (1 : Int32)) s25 else none else none else none else none else none else none
theorem s_M_becomes_L26 (d : Nat) (hd : 1 ≤ d) : ∀ (n : Nat) (v1 : Int32) (v2 : Int32) (v3 : Int32) (v4 : Int32) (σ : gS), S wI m_M_becomes d 26 [some (.ref 59), some (.int v1), some (.int v2), some (.int v3), some (.int v4)] [] σ (f_M_becomes_L26 n v1 v2 v3 v4 σ) := by
  intro n
  induction n with
  | zero =>
    intros
    unfold f_M_becomes_L26
    exact S.no
  | succ n ih =>
    intro v1 v2 v3 v4 σ
    unfold f_M_becomes_L26
    refine S.of1 (pc2 := 28) (fun Q => g_iload d_M_becomes_26 rfl) ?_
    refine S.of1 (pc2 := 30) (fun Q => g_bipush (v := (40 : Int32)) d_M_becomes_28 (by decide)) ?_
    refine S.br (c := (40 : Int32) ≤ v4) (t := 87) (e := 33) (fun Q kt kf => g_icmp_ge d_M_becomes_30 rfl kt kf) (fun h5 => ?_) (fun h5 => ?_)
    · refine S.of1 (pc2 := 88) (fun Q => g_aload_n d_M_becomes_87 rfl) ?_
      refine S.of1 (pc2 := 89) (fun Q => g_dup d_M_becomes_88 rfl) ?_
      refine S.of1 (pc2 := 92) (fun Q => g_geti fl_RX11_75 gc_59_5 d_M_becomes_89) ?_
      refine S.of1 (pc2 := 93) (fun Q => g_iconst (v := (1 : Int32)) d_M_becomes_92 (by decide)) ?_
      refine S.of1 (pc2 := 94) (fun Q => g_isub d_M_becomes_93) ?_
      refine S.of1 (pc2 := 97) (fun Q => g_puti fl_RX11_75 gc_59_5 rfl rfl d_M_becomes_94) ?_
      refine S.gup (fun s6 => ?_)
      exact S.wk (L2 := [some (.ref 59), some (.int v1), some (.int v2), some (.int v3), none]) (And.intro rfl (And.intro rfl (And.intro rfl (And.intro rfl trivial)))) (s_M_becomes_j97 d hd v1 v2 v3 s6)
    · refine S.of1 (pc2 := 34) (fun Q => g_aload_n d_M_becomes_33 rfl) ?_
      refine S.of1 (pc2 := 37) (fun Q => g_getr fl_RX11_13 gc_59_1 d_M_becomes_34) ?_
      refine S.of1 (pc2 := 39) (fun Q => g_iload d_M_becomes_37 rfl) ?_
      refine S.of1 (pc2 := 40) (fun Q => g_iconst (v := (1 : Int32)) d_M_becomes_39 (by decide)) ?_
      refine S.of1 (pc2 := 41) (fun Q => g_isub d_M_becomes_40) ?_
      refine S.of1 (pc2 := 42) (fun Q => g_aload_n d_M_becomes_41 rfl) ?_
      refine S.of1 (pc2 := 45) (fun Q => g_getr fl_RX11_13 gc_59_1 d_M_becomes_42) ?_
      refine S.of1 (pc2 := 47) (fun Q => g_iload d_M_becomes_45 rfl) ?_
      refine S.chk (fun h17 => ?_)
      refine S.of1 (pc2 := 48) (fun Q => g_iald ga_61 (gix_in h17) d_M_becomes_47) ?_
      refine S.chk (fun h18 => ?_)
      refine S.of1 (pc2 := 49) (fun Q => g_iast ga_61 (gix_in h18) d_M_becomes_48) ?_
      refine S.gup (fun s19 => ?_)
      refine S.of1 (pc2 := 50) (fun Q => g_aload_n d_M_becomes_49 rfl) ?_
      refine S.of1 (pc2 := 53) (fun Q => g_getr fl_RX11_16 gc_59_2 d_M_becomes_50) ?_
      refine S.of1 (pc2 := 55) (fun Q => g_iload d_M_becomes_53 rfl) ?_
      refine S.of1 (pc2 := 56) (fun Q => g_iconst (v := (1 : Int32)) d_M_becomes_55 (by decide)) ?_
      refine S.of1 (pc2 := 57) (fun Q => g_isub d_M_becomes_56) ?_
      refine S.of1 (pc2 := 58) (fun Q => g_aload_n d_M_becomes_57 rfl) ?_
      refine S.of1 (pc2 := 61) (fun Q => g_getr fl_RX11_16 gc_59_2 d_M_becomes_58) ?_
      refine S.of1 (pc2 := 63) (fun Q => g_iload d_M_becomes_61 rfl) ?_
      refine S.chk (fun h20 => ?_)
      refine S.of1 (pc2 := 64) (fun Q => g_iald ga_62 (gix_in h20) d_M_becomes_63) ?_
      refine S.chk (fun h21 => ?_)
      refine S.of1 (pc2 := 65) (fun Q => g_iast ga_62 (gix_in h21) d_M_becomes_64) ?_
      refine S.gup (fun s22 => ?_)
      refine S.of1 (pc2 := 66) (fun Q => g_aload_n d_M_becomes_65 rfl) ?_
      refine S.of1 (pc2 := 69) (fun Q => g_getr fl_RX11_19 gc_59_3 d_M_becomes_66) ?_
      refine S.of1 (pc2 := 71) (fun Q => g_iload d_M_becomes_69 rfl) ?_
      refine S.of1 (pc2 := 72) (fun Q => g_iconst (v := (1 : Int32)) d_M_becomes_71 (by decide)) ?_
      refine S.of1 (pc2 := 73) (fun Q => g_isub d_M_becomes_72) ?_
      refine S.of1 (pc2 := 74) (fun Q => g_aload_n d_M_becomes_73 rfl) ?_
      refine S.of1 (pc2 := 77) (fun Q => g_getr fl_RX11_19 gc_59_3 d_M_becomes_74) ?_
      refine S.of1 (pc2 := 79) (fun Q => g_iload d_M_becomes_77 rfl) ?_
      refine S.chk (fun h23 => ?_)
      refine S.of1 (pc2 := 80) (fun Q => g_iald ga_63 (gix_in h23) d_M_becomes_79) ?_
      refine S.chk (fun h24 => ?_)
      refine S.of1 (pc2 := 81) (fun Q => g_iast ga_63 (gix_in h24) d_M_becomes_80) ?_
      refine S.gup (fun s25 => ?_)
      refine S.of1 (pc2 := 84) (L2 := [some (.ref 59), some (.int v1), some (.int v2), some (.int v3), some (.int (v4 + (1 : Int32)))]) (fun Q => g_iinc d_M_becomes_81 rfl (congrArg (fun z => v4 + z) (by decide)) (Nat.le_of_ble_eq_true rfl) rfl) ?_
      refine S.of1 (pc2 := 26) (fun Q => g_goto d_M_becomes_84 rfl) ?_
      exact S.wk (L2 := [some (.ref 59), some (.int v1), some (.int v2), some (.int v3), some (.int (v4 + (1 : Int32)))]) (And.intro rfl (And.intro rfl (And.intro rfl (And.intro rfl (And.intro rfl trivial))))) (ih v1 v2 v3 (v4 + (1 : Int32)) s25)
def f_M_becomes (v1 : Int32) (v2 : Int32) (σ : gS) : Option (Int32 × gS) :=
  if gix v1 43 then glt (σ.1 60 v1.toNatClampNeg) fun x2 => if x2 = v2 then some (x2, σ) else if (σ.1 59 5) = (40 : Int32) then f_M_becomes_L26 gfu v1 v2 x2 (1 : Int32) σ else f_M_becomes_j97 v1 v2 x2 σ else none
theorem c_M_becomes (d : Nat) (hd : 1 ≤ d) (v1 : Int32) (v2 : Int32) (σ : gS) : C wI d m_M_becomes [.ref 59, .int v1, .int v2] σ (f_M_becomes v1 v2 σ) := by
  unfold f_M_becomes
  refine C.of (by decide +kernel) (Nat.le_of_ble_eq_true rfl) (L := [some (.ref 59), some (.int v1), some (.int v2), none, none]) rfl ?_
  refine S.of1 (pc2 := 1) (fun Q => g_aload_n d_M_becomes_0 rfl) ?_
  refine S.of1 (pc2 := 4) (fun Q => g_getr fl_RX11_9 gc_59_0 d_M_becomes_1) ?_
  refine S.of1 (pc2 := 5) (fun Q => g_iload_n d_M_becomes_4 rfl) ?_
  refine S.chk (fun h1 => ?_)
  refine S.of1 (pc2 := 6) (fun Q => g_iald ga_60 (gix_in h1) d_M_becomes_5) ?_
  refine S.of1 (pc2 := 7) (L2 := [some (.ref 59), some (.int v1), some (.int v2), some (.int (σ.1 60 v1.toNatClampNeg)), none]) (fun Q => g_istore_n d_M_becomes_6 (Nat.le_of_ble_eq_true rfl) rfl) ?_
  refine S.glt (x := (σ.1 60 v1.toNatClampNeg)) (Lf := fun y => [some (.ref 59), some (.int v1), some (.int v2), some (.int y), none]) (fun x2 => ?_)
  refine S.of1 (pc2 := 8) (fun Q => g_iload_n d_M_becomes_7 rfl) ?_
  refine S.of1 (pc2 := 9) (fun Q => g_iload_n d_M_becomes_8 rfl) ?_
  refine S.br (c := x2 = v2) (t := 12) (e := 14) (fun Q kt kf => g_icmp_ne d_M_becomes_9 rfl kf kt) (fun h3 => ?_) (fun h3 => ?_)
  · refine S.of1 (pc2 := 13) (fun Q => g_iload_n d_M_becomes_12 rfl) ?_
    exact S.ret (fun Q hq => g_iret rfl d_M_becomes_13 hq)
  · refine S.of1 (pc2 := 15) (fun Q => g_aload_n d_M_becomes_14 rfl) ?_
    refine S.of1 (pc2 := 18) (fun Q => g_geti fl_RX11_75 gc_59_5 d_M_becomes_15) ?_
    refine S.of1 (pc2 := 20) (fun Q => g_bipush (v := (40 : Int32)) d_M_becomes_18 (by decide)) ?_
    refine S.br (c := (σ.1 59 5) = (40 : Int32)) (t := 23) (e := 97) (fun Q kt kf => g_icmp_ne d_M_becomes_20 rfl kf kt) (fun h4 => ?_) (fun h4 => ?_)
    · refine S.of1 (pc2 := 24) (fun Q => g_iconst (v := (1 : Int32)) d_M_becomes_23 (by decide)) ?_
      refine S.of1 (pc2 := 26) (L2 := [some (.ref 59), some (.int v1), some (.int v2), some (.int x2), some (.int (1 : Int32))]) (fun Q => g_istore d_M_becomes_24 (Nat.le_of_ble_eq_true rfl) rfl) ?_
      exact S.wk (L2 := [some (.ref 59), some (.int v1), some (.int v2), some (.int x2), some (.int (1 : Int32))]) (And.intro rfl (And.intro rfl (And.intro rfl (And.intro rfl (And.intro rfl trivial))))) (s_M_becomes_L26 d hd gfu v1 v2 x2 (1 : Int32) σ)
    · exact S.wk (L2 := [some (.ref 59), some (.int v1), some (.int v2), some (.int x2), none]) (And.intro rfl (And.intro rfl (And.intro rfl (And.intro rfl trivial)))) (s_M_becomes_j97 d hd v1 v2 x2 σ)
def f_M_undo (σ : gS) : Option (Int32 × gS) :=
  if (σ.1 59 5) = 0 then some ((-5 : Int32), σ) else gup (gpi σ 59 5 ((σ.1 59 5) - (1 : Int32))) fun s2 => if gix (s2.1 59 5) 40 then if gix (s2.1 59 5) 40 then if gix (s2.1 61 (s2.1 59 5).toNatClampNeg) 43 then gup (gpi s2 60 (s2.1 61 (s2.1 59 5).toNatClampNeg).toNatClampNeg (s2.1 62 (s2.1 59 5).toNatClampNeg)) fun s6 => some ((s6.1 59 5), s6) else none else none else none
theorem c_M_undo (d : Nat) (hd : 1 ≤ d) (σ : gS) : C wI d m_M_undo [.ref 59] σ (f_M_undo σ) := by
  unfold f_M_undo
  refine C.of (by decide +kernel) (Nat.le_of_ble_eq_true rfl) (L := [some (.ref 59)]) rfl ?_
  refine S.of1 (pc2 := 1) (fun Q => g_aload_n d_M_undo_0 rfl) ?_
  refine S.of1 (pc2 := 4) (fun Q => g_geti fl_RX11_75 gc_59_5 d_M_undo_1) ?_
  refine S.br (c := (σ.1 59 5) = 0) (t := 7) (e := 10) (fun Q kt kf => g_if_ne d_M_undo_4 rfl kf kt) (fun h1 => ?_) (fun h1 => ?_)
  · refine S.of1 (pc2 := 9) (fun Q => g_bipush (v := (-5 : Int32)) d_M_undo_7 (by decide)) ?_
    exact S.ret (fun Q hq => g_iret rfl d_M_undo_9 hq)
  · refine S.of1 (pc2 := 11) (fun Q => g_aload_n d_M_undo_10 rfl) ?_
    refine S.of1 (pc2 := 12) (fun Q => g_dup d_M_undo_11 rfl) ?_
    refine S.of1 (pc2 := 15) (fun Q => g_geti fl_RX11_75 gc_59_5 d_M_undo_12) ?_
    refine S.of1 (pc2 := 16) (fun Q => g_iconst (v := (1 : Int32)) d_M_undo_15 (by decide)) ?_
    refine S.of1 (pc2 := 17) (fun Q => g_isub d_M_undo_16) ?_
    refine S.of1 (pc2 := 20) (fun Q => g_puti fl_RX11_75 gc_59_5 rfl rfl d_M_undo_17) ?_
    refine S.gup (fun s2 => ?_)
    refine S.of1 (pc2 := 21) (fun Q => g_aload_n d_M_undo_20 rfl) ?_
    refine S.of1 (pc2 := 24) (fun Q => g_getr fl_RX11_9 gc_59_0 d_M_undo_21) ?_
    refine S.of1 (pc2 := 25) (fun Q => g_aload_n d_M_undo_24 rfl) ?_
    refine S.of1 (pc2 := 28) (fun Q => g_getr fl_RX11_13 gc_59_1 d_M_undo_25) ?_
    refine S.of1 (pc2 := 29) (fun Q => g_aload_n d_M_undo_28 rfl) ?_
    refine S.of1 (pc2 := 32) (fun Q => g_geti fl_RX11_75 gc_59_5 d_M_undo_29) ?_
    refine S.chk (fun h3 => ?_)
    refine S.of1 (pc2 := 33) (fun Q => g_iald ga_61 (gix_in h3) d_M_undo_32) ?_
    refine S.of1 (pc2 := 34) (fun Q => g_aload_n d_M_undo_33 rfl) ?_
    refine S.of1 (pc2 := 37) (fun Q => g_getr fl_RX11_16 gc_59_2 d_M_undo_34) ?_
    refine S.of1 (pc2 := 38) (fun Q => g_aload_n d_M_undo_37 rfl) ?_
    refine S.of1 (pc2 := 41) (fun Q => g_geti fl_RX11_75 gc_59_5 d_M_undo_38) ?_
    refine S.chk (fun h4 => ?_)
    refine S.of1 (pc2 := 42) (fun Q => g_iald ga_62 (gix_in h4) d_M_undo_41) ?_
    refine S.chk (fun h5 => ?_)
    refine S.of1 (pc2 := 43) (fun Q => g_iast ga_60 (gix_in h5) d_M_undo_42) ?_
    refine S.gup (fun s6 => ?_)
    refine S.of1 (pc2 := 44) (fun Q => g_aload_n d_M_undo_43 rfl) ?_
    refine S.of1 (pc2 := 47) (fun Q => g_geti fl_RX11_75 gc_59_5 d_M_undo_44) ?_
    exact S.ret (fun Q hq => g_iret rfl d_M_undo_47 hq)
def f_M_redo (σ : gS) : Option (Int32 × gS) :=
  if (σ.1 59 5) = (σ.1 59 4) then some ((-5 : Int32), σ) else if gix (σ.1 59 5) 40 then if gix (σ.1 59 5) 40 then if gix (σ.1 61 (σ.1 59 5).toNatClampNeg) 43 then gup (gpi σ 60 (σ.1 61 (σ.1 59 5).toNatClampNeg).toNatClampNeg (σ.1 63 (σ.1 59 5).toNatClampNeg)) fun s5 => gup (gpi s5 59 5 ((s5.1 59 5) + (1 : Int32))) fun s6 => some (((s6.1 59 4) - (s6.1 59 5)), s6) else none else none else none
theorem c_M_redo (d : Nat) (hd : 1 ≤ d) (σ : gS) : C wI d m_M_redo [.ref 59] σ (f_M_redo σ) := by
  unfold f_M_redo
  refine C.of (by decide +kernel) (Nat.le_of_ble_eq_true rfl) (L := [some (.ref 59)]) rfl ?_
  refine S.of1 (pc2 := 1) (fun Q => g_aload_n d_M_redo_0 rfl) ?_
  refine S.of1 (pc2 := 4) (fun Q => g_geti fl_RX11_75 gc_59_5 d_M_redo_1) ?_
  refine S.of1 (pc2 := 5) (fun Q => g_aload_n d_M_redo_4 rfl) ?_
  refine S.of1 (pc2 := 8) (fun Q => g_geti fl_RX11_78 gc_59_4 d_M_redo_5) ?_
  refine S.br (c := (σ.1 59 5) = (σ.1 59 4)) (t := 11) (e := 14) (fun Q kt kf => g_icmp_ne d_M_redo_8 rfl kf kt) (fun h1 => ?_) (fun h1 => ?_)
  · refine S.of1 (pc2 := 13) (fun Q => g_bipush (v := (-5 : Int32)) d_M_redo_11 (by decide)) ?_
    exact S.ret (fun Q hq => g_iret rfl d_M_redo_13 hq)
  · refine S.of1 (pc2 := 15) (fun Q => g_aload_n d_M_redo_14 rfl) ?_
    refine S.of1 (pc2 := 18) (fun Q => g_getr fl_RX11_9 gc_59_0 d_M_redo_15) ?_
    refine S.of1 (pc2 := 19) (fun Q => g_aload_n d_M_redo_18 rfl) ?_
    refine S.of1 (pc2 := 22) (fun Q => g_getr fl_RX11_13 gc_59_1 d_M_redo_19) ?_
    refine S.of1 (pc2 := 23) (fun Q => g_aload_n d_M_redo_22 rfl) ?_
    refine S.of1 (pc2 := 26) (fun Q => g_geti fl_RX11_75 gc_59_5 d_M_redo_23) ?_
    refine S.chk (fun h2 => ?_)
    refine S.of1 (pc2 := 27) (fun Q => g_iald ga_61 (gix_in h2) d_M_redo_26) ?_
    refine S.of1 (pc2 := 28) (fun Q => g_aload_n d_M_redo_27 rfl) ?_
    refine S.of1 (pc2 := 31) (fun Q => g_getr fl_RX11_19 gc_59_3 d_M_redo_28) ?_
    refine S.of1 (pc2 := 32) (fun Q => g_aload_n d_M_redo_31 rfl) ?_
    refine S.of1 (pc2 := 35) (fun Q => g_geti fl_RX11_75 gc_59_5 d_M_redo_32) ?_
    refine S.chk (fun h3 => ?_)
    refine S.of1 (pc2 := 36) (fun Q => g_iald ga_63 (gix_in h3) d_M_redo_35) ?_
    refine S.chk (fun h4 => ?_)
    refine S.of1 (pc2 := 37) (fun Q => g_iast ga_60 (gix_in h4) d_M_redo_36) ?_
    refine S.gup (fun s5 => ?_)
    refine S.of1 (pc2 := 38) (fun Q => g_aload_n d_M_redo_37 rfl) ?_
    refine S.of1 (pc2 := 39) (fun Q => g_dup d_M_redo_38 rfl) ?_
    refine S.of1 (pc2 := 42) (fun Q => g_geti fl_RX11_75 gc_59_5 d_M_redo_39) ?_
    refine S.of1 (pc2 := 43) (fun Q => g_iconst (v := (1 : Int32)) d_M_redo_42 (by decide)) ?_
    refine S.of1 (pc2 := 44) (fun Q => g_iadd d_M_redo_43) ?_
    refine S.of1 (pc2 := 47) (fun Q => g_puti fl_RX11_75 gc_59_5 rfl rfl d_M_redo_44) ?_
    refine S.gup (fun s6 => ?_)
    refine S.of1 (pc2 := 48) (fun Q => g_aload_n d_M_redo_47 rfl) ?_
    refine S.of1 (pc2 := 51) (fun Q => g_geti fl_RX11_78 gc_59_4 d_M_redo_48) ?_
    refine S.of1 (pc2 := 52) (fun Q => g_aload_n d_M_redo_51 rfl) ?_
    refine S.of1 (pc2 := 55) (fun Q => g_geti fl_RX11_75 gc_59_5 d_M_redo_52) ?_
    refine S.of1 (pc2 := 56) (fun Q => g_isub d_M_redo_55) ?_
    exact S.ret (fun Q hq => g_iret rfl d_M_redo_56 hq)
def f_M_isOne (v1 : Int64) (σ : gS) : Option Int32 :=
  (f_M_within v1 (0 : Int64) (((σ.1 59 6) - (1 : Int32)).toInt64)).bind fun q1 => if gzb q1 then some q1 else none
theorem c_M_isOne (d : Nat) (hd : 2 ≤ d) (v1 : Int64) (σ : gS) : C (rI σ) d m_M_isOne [.ref 59, .long v1] σ (f_M_isOne v1 σ) := by
  unfold f_M_isOne
  refine C.of (by decide +kernel) (Nat.le_of_ble_eq_true rfl) (L := [some (.ref 59), some (.long v1), none]) rfl ?_
  refine S.of1 (pc2 := 1) (fun Q => g_lload_n d_M_isOne_0 rfl) ?_
  refine S.of1 (pc2 := 2) (fun Q => g_lconst (v := (0 : Int64)) d_M_isOne_1 (by decide)) ?_
  refine S.of1 (pc2 := 3) (fun Q => g_aload_n d_M_isOne_2 rfl) ?_
  refine S.of1 (pc2 := 6) (fun Q => g_geti fl_RX11_81 gc_59_6 d_M_isOne_3) ?_
  refine S.of1 (pc2 := 7) (fun Q => g_iconst (v := (1 : Int32)) d_M_isOne_6 (by decide)) ?_
  refine S.of1 (pc2 := 8) (fun Q => g_isub d_M_isOne_7) ?_
  refine S.of1 (pc2 := 9) (fun Q => g_i2l d_M_isOne_8) ?_
  refine S.call_rI (pc3 := 12) rfl (c_M_within (d - 1) (by omega) v1 (0 : Int64) (((σ.1 59 6) - (1 : Int32)).toInt64) σ) (fun Q => g_callS (M2 := m_M_within) (vs := [.long v1, .long (0 : Int64), .long (((σ.1 59 6) - (1 : Int32)).toInt64)]) (st := []) ls_RX11_84 rfl (Nat.le_of_ble_eq_true rfl) (by omega) (Nat.le_of_ble_eq_true rfl) rfl d_M_isOne_9) (fun q1 => ?_)
  refine S.chk (fun h2 => ?_)
  exact S.ret (fun Q hq => g_zret rfl (gzb_n h2) d_M_isOne_12 hq)
def f_M_isWeather (v0 : Int64) : Option Int32 :=
  (f_M_within v0 (0 : Int64) (5 : Int64)).bind fun q1 => if gzb q1 then some q1 else none
theorem c_M_isWeather (d : Nat) (hd : 2 ≤ d) (v0 : Int64) (σ : gS) : C (rI σ) d m_M_isWeather [.long v0] σ (f_M_isWeather v0) := by
  unfold f_M_isWeather
  refine C.of (by decide +kernel) (Nat.le_of_ble_eq_true rfl) (L := [some (.long v0), none]) rfl ?_
  refine S.of1 (pc2 := 1) (fun Q => g_lload_n d_M_isWeather_0 rfl) ?_
  refine S.of1 (pc2 := 2) (fun Q => g_lconst (v := (0 : Int64)) d_M_isWeather_1 (by decide)) ?_
  refine S.of1 (pc2 := 5) (fun Q => g_ldc2 (v := (5 : Int64)) d_M_isWeather_2 w_1288) ?_
  refine S.call_rI (pc3 := 8) rfl (c_M_within (d - 1) (by omega) v0 (0 : Int64) (5 : Int64) σ) (fun Q => g_callS (M2 := m_M_within) (vs := [.long v0, .long (0 : Int64), .long (5 : Int64)]) (st := []) ls_RX11_84 rfl (Nat.le_of_ble_eq_true rfl) (by omega) (Nat.le_of_ble_eq_true rfl) rfl d_M_isWeather_5) (fun q1 => ?_)
  refine S.chk (fun h2 => ?_)
  exact S.ret (fun Q hq => g_zret rfl (gzb_n h2) d_M_isWeather_8 hq)
def f_M_mayCome (v0 : Int64) (v2 : Int64) (v4 : Int64) : Option Int32 :=
  (f_M_within v0 (0 : Int64) (7 : Int64)).bind fun q1 => if q1 = 0 then some (0 : Int32) else (f_M_within v2 (0 : Int64) (12 : Int64)).bind fun q3 => if q3 = 0 then some (0 : Int32) else (f_M_within v4 (0 : Int64) (99 : Int64)).bind fun q5 => if q5 = 0 then some (0 : Int32) else some (1 : Int32)
theorem c_M_mayCome (d : Nat) (hd : 2 ≤ d) (v0 : Int64) (v2 : Int64) (v4 : Int64) (σ : gS) : C (rI σ) d m_M_mayCome [.long v0, .long v2, .long v4] σ (f_M_mayCome v0 v2 v4) := by
  unfold f_M_mayCome
  refine C.of (by decide +kernel) (Nat.le_of_ble_eq_true rfl) (L := [some (.long v0), none, some (.long v2), none, some (.long v4), none]) rfl ?_
  refine S.of1 (pc2 := 1) (fun Q => g_lload_n d_M_mayCome_0 rfl) ?_
  refine S.of1 (pc2 := 2) (fun Q => g_lconst (v := (0 : Int64)) d_M_mayCome_1 (by decide)) ?_
  refine S.of1 (pc2 := 5) (fun Q => g_ldc2 (v := (7 : Int64)) d_M_mayCome_2 w_1271) ?_
  refine S.call_rI (pc3 := 8) rfl (c_M_within (d - 1) (by omega) v0 (0 : Int64) (7 : Int64) σ) (fun Q => g_callS (M2 := m_M_within) (vs := [.long v0, .long (0 : Int64), .long (7 : Int64)]) (st := []) ls_RX11_84 rfl (Nat.le_of_ble_eq_true rfl) (by omega) (Nat.le_of_ble_eq_true rfl) rfl d_M_mayCome_5) (fun q1 => ?_)
  refine S.br (c := q1 = 0) (t := 38) (e := 11) (fun Q kt kf => g_if_eq d_M_mayCome_8 rfl kt kf) (fun h2 => ?_) (fun h2 => ?_)
  · refine S.of1 (pc2 := 39) (fun Q => g_iconst (v := (0 : Int32)) d_M_mayCome_38 (by decide)) ?_
    exact S.ret (fun Q hq => g_zret rfl rfl d_M_mayCome_39 hq)
  · refine S.of1 (pc2 := 12) (fun Q => g_lload_n d_M_mayCome_11 rfl) ?_
    refine S.of1 (pc2 := 13) (fun Q => g_lconst (v := (0 : Int64)) d_M_mayCome_12 (by decide)) ?_
    refine S.of1 (pc2 := 16) (fun Q => g_ldc2 (v := (12 : Int64)) d_M_mayCome_13 w_1275) ?_
    refine S.call_rI (pc3 := 19) rfl (c_M_within (d - 1) (by omega) v2 (0 : Int64) (12 : Int64) σ) (fun Q => g_callS (M2 := m_M_within) (vs := [.long v2, .long (0 : Int64), .long (12 : Int64)]) (st := []) ls_RX11_84 rfl (Nat.le_of_ble_eq_true rfl) (by omega) (Nat.le_of_ble_eq_true rfl) rfl d_M_mayCome_16) (fun q3 => ?_)
    refine S.br (c := q3 = 0) (t := 38) (e := 22) (fun Q kt kf => g_if_eq d_M_mayCome_19 rfl kt kf) (fun h4 => ?_) (fun h4 => ?_)
    · refine S.of1 (pc2 := 39) (fun Q => g_iconst (v := (0 : Int32)) d_M_mayCome_38 (by decide)) ?_
      exact S.ret (fun Q hq => g_zret rfl rfl d_M_mayCome_39 hq)
    · refine S.of1 (pc2 := 24) (fun Q => g_lload d_M_mayCome_22 rfl) ?_
      refine S.of1 (pc2 := 25) (fun Q => g_lconst (v := (0 : Int64)) d_M_mayCome_24 (by decide)) ?_
      refine S.of1 (pc2 := 28) (fun Q => g_ldc2 (v := (99 : Int64)) d_M_mayCome_25 w_1276) ?_
      refine S.call_rI (pc3 := 31) rfl (c_M_within (d - 1) (by omega) v4 (0 : Int64) (99 : Int64) σ) (fun Q => g_callS (M2 := m_M_within) (vs := [.long v4, .long (0 : Int64), .long (99 : Int64)]) (st := []) ls_RX11_84 rfl (Nat.le_of_ble_eq_true rfl) (by omega) (Nat.le_of_ble_eq_true rfl) rfl d_M_mayCome_28) (fun q5 => ?_)
      refine S.br (c := q5 = 0) (t := 38) (e := 34) (fun Q kt kf => g_if_eq d_M_mayCome_31 rfl kt kf) (fun h6 => ?_) (fun h6 => ?_)
      · refine S.of1 (pc2 := 39) (fun Q => g_iconst (v := (0 : Int32)) d_M_mayCome_38 (by decide)) ?_
        exact S.ret (fun Q hq => g_zret rfl rfl d_M_mayCome_39 hq)
      · refine S.of1 (pc2 := 35) (fun Q => g_iconst (v := (1 : Int32)) d_M_mayCome_34 (by decide)) ?_
        refine S.of1 (pc2 := 39) (fun Q => g_goto d_M_mayCome_35 rfl) ?_
        exact S.ret (fun Q hq => g_zret rfl rfl d_M_mayCome_39 hq)
def f_M_adds (v1 : Int32) (v2 : Int32) (v3 : Int32) (σ : gS) : Option gS :=
  if gix (σ.1 59 6) 43 then gup (gpi σ 60 (σ.1 59 6).toNatClampNeg v1) fun s2 => if gix ((10 : Int32) + (s2.1 59 6)) 43 then gup (gpi s2 60 ((10 : Int32) + (s2.1 59 6)).toNatClampNeg v2) fun s4 => if gix ((20 : Int32) + (s4.1 59 6)) 43 then gup (gpi s4 60 ((20 : Int32) + (s4.1 59 6)).toNatClampNeg v3) fun s6 => if gix ((30 : Int32) + (s6.1 59 6)) 43 then gup (gpi s6 60 ((30 : Int32) + (s6.1 59 6)).toNatClampNeg (-1 : Int32)) fun s8 => gup (gpi s8 59 6 ((s8.1 59 6) + (1 : Int32))) fun s9 => some s9 else none else none else none else none
theorem c_M_adds (d : Nat) (hd : 1 ≤ d) (v1 : Int32) (v2 : Int32) (v3 : Int32) (σ : gS) : C wV d m_M_adds [.ref 59, .int v1, .int v2, .int v3] σ (f_M_adds v1 v2 v3 σ) := by
  unfold f_M_adds
  refine C.of (by decide +kernel) (Nat.le_of_ble_eq_true rfl) (L := [some (.ref 59), some (.int v1), some (.int v2), some (.int v3)]) rfl ?_
  refine S.of1 (pc2 := 1) (fun Q => g_aload_n d_M_adds_0 rfl) ?_
  refine S.of1 (pc2 := 4) (fun Q => g_getr fl_RX11_9 gc_59_0 d_M_adds_1) ?_
  refine S.of1 (pc2 := 5) (fun Q => g_aload_n d_M_adds_4 rfl) ?_
  refine S.of1 (pc2 := 8) (fun Q => g_geti fl_RX11_81 gc_59_6 d_M_adds_5) ?_
  refine S.of1 (pc2 := 9) (fun Q => g_iload_n d_M_adds_8 rfl) ?_
  refine S.chk (fun h1 => ?_)
  refine S.of1 (pc2 := 10) (fun Q => g_iast ga_60 (gix_in h1) d_M_adds_9) ?_
  refine S.gup (fun s2 => ?_)
  refine S.of1 (pc2 := 11) (fun Q => g_aload_n d_M_adds_10 rfl) ?_
  refine S.of1 (pc2 := 14) (fun Q => g_getr fl_RX11_9 gc_59_0 d_M_adds_11) ?_
  refine S.of1 (pc2 := 16) (fun Q => g_bipush (v := (10 : Int32)) d_M_adds_14 (by decide)) ?_
  refine S.of1 (pc2 := 17) (fun Q => g_aload_n d_M_adds_16 rfl) ?_
  refine S.of1 (pc2 := 20) (fun Q => g_geti fl_RX11_81 gc_59_6 d_M_adds_17) ?_
  refine S.of1 (pc2 := 21) (fun Q => g_iadd d_M_adds_20) ?_
  refine S.of1 (pc2 := 22) (fun Q => g_iload_n d_M_adds_21 rfl) ?_
  refine S.chk (fun h3 => ?_)
  refine S.of1 (pc2 := 23) (fun Q => g_iast ga_60 (gix_in h3) d_M_adds_22) ?_
  refine S.gup (fun s4 => ?_)
  refine S.of1 (pc2 := 24) (fun Q => g_aload_n d_M_adds_23 rfl) ?_
  refine S.of1 (pc2 := 27) (fun Q => g_getr fl_RX11_9 gc_59_0 d_M_adds_24) ?_
  refine S.of1 (pc2 := 29) (fun Q => g_bipush (v := (20 : Int32)) d_M_adds_27 (by decide)) ?_
  refine S.of1 (pc2 := 30) (fun Q => g_aload_n d_M_adds_29 rfl) ?_
  refine S.of1 (pc2 := 33) (fun Q => g_geti fl_RX11_81 gc_59_6 d_M_adds_30) ?_
  refine S.of1 (pc2 := 34) (fun Q => g_iadd d_M_adds_33) ?_
  refine S.of1 (pc2 := 35) (fun Q => g_iload_n d_M_adds_34 rfl) ?_
  refine S.chk (fun h5 => ?_)
  refine S.of1 (pc2 := 36) (fun Q => g_iast ga_60 (gix_in h5) d_M_adds_35) ?_
  refine S.gup (fun s6 => ?_)
  refine S.of1 (pc2 := 37) (fun Q => g_aload_n d_M_adds_36 rfl) ?_
  refine S.of1 (pc2 := 40) (fun Q => g_getr fl_RX11_9 gc_59_0 d_M_adds_37) ?_
  refine S.of1 (pc2 := 42) (fun Q => g_bipush (v := (30 : Int32)) d_M_adds_40 (by decide)) ?_
  refine S.of1 (pc2 := 43) (fun Q => g_aload_n d_M_adds_42 rfl) ?_
  refine S.of1 (pc2 := 46) (fun Q => g_geti fl_RX11_81 gc_59_6 d_M_adds_43) ?_
  refine S.of1 (pc2 := 47) (fun Q => g_iadd d_M_adds_46) ?_
  refine S.of1 (pc2 := 48) (fun Q => g_iconst (v := (-1 : Int32)) d_M_adds_47 (by decide)) ?_
  refine S.chk (fun h7 => ?_)
  refine S.of1 (pc2 := 49) (fun Q => g_iast ga_60 (gix_in h7) d_M_adds_48) ?_
  refine S.gup (fun s8 => ?_)
  refine S.of1 (pc2 := 50) (fun Q => g_aload_n d_M_adds_49 rfl) ?_
  refine S.of1 (pc2 := 51) (fun Q => g_dup d_M_adds_50 rfl) ?_
  refine S.of1 (pc2 := 54) (fun Q => g_geti fl_RX11_81 gc_59_6 d_M_adds_51) ?_
  refine S.of1 (pc2 := 55) (fun Q => g_iconst (v := (1 : Int32)) d_M_adds_54 (by decide)) ?_
  refine S.of1 (pc2 := 56) (fun Q => g_iadd d_M_adds_55) ?_
  refine S.of1 (pc2 := 59) (fun Q => g_puti fl_RX11_81 gc_59_6 rfl rfl d_M_adds_56) ?_
  refine S.gup (fun s9 => ?_)
  exact S.ret (fun Q hq => g_vret rfl d_M_adds_59 hq)
def f_M_citizen (v1 : Int32) (σ : gS) : Option (Int32 × gS) :=
  (f_M_mayCome (v1.toInt64) (0 : Int64) (0 : Int64)).bind fun q1 => if q1 = 0 then some ((-1 : Int32), σ) else if (σ.1 59 6) = (10 : Int32) then some ((-3 : Int32), σ) else (f_M_adds v1 (9 : Int32) (10 : Int32) σ).bind fun s4 => some (((s4.1 59 6) - (1 : Int32)), s4)
theorem c_M_citizen (d : Nat) (hd : 3 ≤ d) (v1 : Int32) (σ : gS) : C wI d m_M_citizen [.ref 59, .int v1] σ (f_M_citizen v1 σ) := by
  unfold f_M_citizen
  refine C.of (by decide +kernel) (Nat.le_of_ble_eq_true rfl) (L := [some (.ref 59), some (.int v1)]) rfl ?_
  refine S.of1 (pc2 := 1) (fun Q => g_iload_n d_M_citizen_0 rfl) ?_
  refine S.of1 (pc2 := 2) (fun Q => g_i2l d_M_citizen_1) ?_
  refine S.of1 (pc2 := 3) (fun Q => g_lconst (v := (0 : Int64)) d_M_citizen_2 (by decide)) ?_
  refine S.of1 (pc2 := 4) (fun Q => g_lconst (v := (0 : Int64)) d_M_citizen_3 (by decide)) ?_
  refine S.call_rI (pc3 := 7) rfl (c_M_mayCome (d - 1) (by omega) (v1.toInt64) (0 : Int64) (0 : Int64) σ) (fun Q => g_callS (M2 := m_M_mayCome) (vs := [.long (v1.toInt64), .long (0 : Int64), .long (0 : Int64)]) (st := []) ls_RX11_96 rfl (Nat.le_of_ble_eq_true rfl) (by omega) (Nat.le_of_ble_eq_true rfl) rfl d_M_citizen_4) (fun q1 => ?_)
  refine S.br (c := q1 = 0) (t := 10) (e := 12) (fun Q kt kf => g_if_ne d_M_citizen_7 rfl kf kt) (fun h2 => ?_) (fun h2 => ?_)
  · refine S.of1 (pc2 := 11) (fun Q => g_iconst (v := (-1 : Int32)) d_M_citizen_10 (by decide)) ?_
    exact S.ret (fun Q hq => g_iret rfl d_M_citizen_11 hq)
  · refine S.of1 (pc2 := 13) (fun Q => g_aload_n d_M_citizen_12 rfl) ?_
    refine S.of1 (pc2 := 16) (fun Q => g_geti fl_RX11_81 gc_59_6 d_M_citizen_13) ?_
    refine S.of1 (pc2 := 18) (fun Q => g_bipush (v := (10 : Int32)) d_M_citizen_16 (by decide)) ?_
    refine S.br (c := (σ.1 59 6) = (10 : Int32)) (t := 21) (e := 24) (fun Q kt kf => g_icmp_ne d_M_citizen_18 rfl kf kt) (fun h3 => ?_) (fun h3 => ?_)
    · refine S.of1 (pc2 := 23) (fun Q => g_bipush (v := (-3 : Int32)) d_M_citizen_21 (by decide)) ?_
      exact S.ret (fun Q hq => g_iret rfl d_M_citizen_23 hq)
    · refine S.of1 (pc2 := 25) (fun Q => g_aload_n d_M_citizen_24 rfl) ?_
      refine S.of1 (pc2 := 26) (fun Q => g_iload_n d_M_citizen_25 rfl) ?_
      refine S.of1 (pc2 := 28) (fun Q => g_bipush (v := (9 : Int32)) d_M_citizen_26 (by decide)) ?_
      refine S.of1 (pc2 := 30) (fun Q => g_bipush (v := (10 : Int32)) d_M_citizen_28 (by decide)) ?_
      refine S.call_wV (pc3 := 33) rfl (c_M_adds (d - 1) (by omega) v1 (9 : Int32) (10 : Int32) σ) (fun Q => g_callV (M2 := m_M_adds) (vs := [.int v1, .int (9 : Int32), .int (10 : Int32)]) (st := []) lv_RX11_99 gk_59 rfl rfl (Nat.le_of_ble_eq_true rfl) (by omega) (Nat.le_of_ble_eq_true rfl) rfl d_M_citizen_30) (fun s4 => ?_)
      refine S.of1 (pc2 := 34) (fun Q => g_aload_n d_M_citizen_33 rfl) ?_
      refine S.of1 (pc2 := 37) (fun Q => g_geti fl_RX11_81 gc_59_6 d_M_citizen_34) ?_
      refine S.of1 (pc2 := 38) (fun Q => g_iconst (v := (1 : Int32)) d_M_citizen_37 (by decide)) ?_
      refine S.of1 (pc2 := 39) (fun Q => g_isub d_M_citizen_38) ?_
      exact S.ret (fun Q hq => g_iret rfl d_M_citizen_39 hq)
def f_M_isShelf (v0 : Int32) : Option Int32 :=
  (f_M_within (v0.toInt64) (0 : Int64) (5 : Int64)).bind fun q1 => if gzb q1 then some q1 else none
theorem c_M_isShelf (d : Nat) (hd : 2 ≤ d) (v0 : Int32) (σ : gS) : C (rI σ) d m_M_isShelf [.int v0] σ (f_M_isShelf v0) := by
  unfold f_M_isShelf
  refine C.of (by decide +kernel) (Nat.le_of_ble_eq_true rfl) (L := [some (.int v0)]) rfl ?_
  refine S.of1 (pc2 := 1) (fun Q => g_iload_n d_M_isShelf_0 rfl) ?_
  refine S.of1 (pc2 := 2) (fun Q => g_i2l d_M_isShelf_1) ?_
  refine S.of1 (pc2 := 3) (fun Q => g_lconst (v := (0 : Int64)) d_M_isShelf_2 (by decide)) ?_
  refine S.of1 (pc2 := 6) (fun Q => g_ldc2 (v := (5 : Int64)) d_M_isShelf_3 w_1288) ?_
  refine S.call_rI (pc3 := 9) rfl (c_M_within (d - 1) (by omega) (v0.toInt64) (0 : Int64) (5 : Int64) σ) (fun Q => g_callS (M2 := m_M_within) (vs := [.long (v0.toInt64), .long (0 : Int64), .long (5 : Int64)]) (st := []) ls_RX11_84 rfl (Nat.le_of_ble_eq_true rfl) (by omega) (Nat.le_of_ble_eq_true rfl) rfl d_M_isShelf_6) (fun q1 => ?_)
  refine S.chk (fun h2 => ?_)
  exact S.ret (fun Q hq => g_zret rfl (gzb_n h2) d_M_isShelf_9 hq)
def f_M_citizens_j167 (k69 : Int32 → Int32 → Int32 → Int32 → Int32 → gS → Option (Int32 × gS)) (v1 : Int32) (v2 : Int32) (v3 : Int32) (v4 : Int32) (v6 : Int32) (s0 : Int32) (σ : gS) : Option (Int32 × gS) :=
  if s0 = 0 then k69 v1 v2 v3 v4 s0 σ else if gix v6 360 then if gix (v6 + (1 : Int32)) 360 then if gix (v6 + (2 : Int32)) 360 then (f_M_adds ((σ.2 78 v6.toNatClampNeg).toInt32) ((σ.2 78 (v6 + (1 : Int32)).toNatClampNeg).toInt32) ((σ.2 78 (v6 + (2 : Int32)).toNatClampNeg).toInt32) σ).bind fun s20 => k69 v1 v2 v3 (v4 + (1 : Int32)) s0 s20 else none else none else none
theorem s_M_citizens_j167 (d : Nat) (hd : 3 ≤ d) (k69 : Int32 → Int32 → Int32 → Int32 → Int32 → gS → Option (Int32 × gS)) (hk69 : ∀ (v1 : Int32) (v2 : Int32) (v3 : Int32) (v4 : Int32) (v5 : Int32) (τ : gS), S wI m_M_citizens d 69 [some (.ref 59), some (.int v1), some (.int v2), some (.int v3), some (.int v4), some (.int v5), none] [] τ (k69 v1 v2 v3 v4 v5 τ)) (v1 : Int32) (v2 : Int32) (v3 : Int32) (v4 : Int32) (v6 : Int32) (s0 : Int32) (σ : gS) : S wI m_M_citizens d 167 [some (.ref 59), some (.int v1), some (.int v2), some (.int v3), some (.int v4), none, some (.int v6)] [.int s0] σ (f_M_citizens_j167 k69 v1 v2 v3 v4 v6 s0 σ) := by
  unfold f_M_citizens_j167
  refine S.of1 (pc2 := 169) (L2 := [some (.ref 59), some (.int v1), some (.int v2), some (.int v3), some (.int v4), some (.int s0), some (.int v6)]) (fun Q => g_istore d_M_citizens_167 (Nat.le_of_ble_eq_true rfl) rfl) ?_
  refine S.of1 (pc2 := 171) (fun Q => g_iload d_M_citizens_169 rfl) ?_
  refine S.br (c := s0 = 0) (t := 209) (e := 174) (fun Q kt kf => g_if_eq d_M_citizens_171 rfl kt kf) (fun h16 => ?_) (fun h16 => ?_)
  · refine S.of1 (pc2 := 69) (fun Q => g_goto d_M_citizens_209 rfl) ?_
    exact S.wk (L2 := [some (.ref 59), some (.int v1), some (.int v2), some (.int v3), some (.int v4), some (.int s0), none]) (And.intro rfl (And.intro rfl (And.intro rfl (And.intro rfl (And.intro rfl (And.intro rfl trivial)))))) (hk69 v1 v2 v3 v4 s0 σ)
  · refine S.of1 (pc2 := 175) (fun Q => g_aload_n d_M_citizens_174 rfl) ?_
    refine S.of1 (pc2 := 176) (fun Q => g_aload_n d_M_citizens_175 rfl) ?_
    refine S.of1 (pc2 := 179) (fun Q => g_getr fl_RX11_64 gc_59_38 d_M_citizens_176) ?_
    refine S.of1 (pc2 := 181) (fun Q => g_iload d_M_citizens_179 rfl) ?_
    refine S.chk (fun h17 => ?_)
    refine S.of1 (pc2 := 182) (fun Q => g_lald ga_78 (gix_in h17) d_M_citizens_181) ?_
    refine S.of1 (pc2 := 183) (fun Q => g_l2i d_M_citizens_182) ?_
    refine S.of1 (pc2 := 184) (fun Q => g_aload_n d_M_citizens_183 rfl) ?_
    refine S.of1 (pc2 := 187) (fun Q => g_getr fl_RX11_64 gc_59_38 d_M_citizens_184) ?_
    refine S.of1 (pc2 := 189) (fun Q => g_iload d_M_citizens_187 rfl) ?_
    refine S.of1 (pc2 := 190) (fun Q => g_iconst (v := (1 : Int32)) d_M_citizens_189 (by decide)) ?_
    refine S.of1 (pc2 := 191) (fun Q => g_iadd d_M_citizens_190) ?_
    refine S.chk (fun h18 => ?_)
    refine S.of1 (pc2 := 192) (fun Q => g_lald ga_78 (gix_in h18) d_M_citizens_191) ?_
    refine S.of1 (pc2 := 193) (fun Q => g_l2i d_M_citizens_192) ?_
    refine S.of1 (pc2 := 194) (fun Q => g_aload_n d_M_citizens_193 rfl) ?_
    refine S.of1 (pc2 := 197) (fun Q => g_getr fl_RX11_64 gc_59_38 d_M_citizens_194) ?_
    refine S.of1 (pc2 := 199) (fun Q => g_iload d_M_citizens_197 rfl) ?_
    refine S.of1 (pc2 := 200) (fun Q => g_iconst (v := (2 : Int32)) d_M_citizens_199 (by decide)) ?_
    refine S.of1 (pc2 := 201) (fun Q => g_iadd d_M_citizens_200) ?_
    refine S.chk (fun h19 => ?_)
    refine S.of1 (pc2 := 202) (fun Q => g_lald ga_78 (gix_in h19) d_M_citizens_201) ?_
    refine S.of1 (pc2 := 203) (fun Q => g_l2i d_M_citizens_202) ?_
    refine S.call_wV (pc3 := 206) rfl (c_M_adds (d - 1) (by omega) ((σ.2 78 v6.toNatClampNeg).toInt32) ((σ.2 78 (v6 + (1 : Int32)).toNatClampNeg).toInt32) ((σ.2 78 (v6 + (2 : Int32)).toNatClampNeg).toInt32) σ) (fun Q => g_callV (M2 := m_M_adds) (vs := [.int ((σ.2 78 v6.toNatClampNeg).toInt32), .int ((σ.2 78 (v6 + (1 : Int32)).toNatClampNeg).toInt32), .int ((σ.2 78 (v6 + (2 : Int32)).toNatClampNeg).toInt32)]) (st := []) lv_RX11_99 gk_59 rfl rfl (Nat.le_of_ble_eq_true rfl) (by omega) (Nat.le_of_ble_eq_true rfl) rfl d_M_citizens_203) (fun s20 => ?_)
    refine S.of1 (pc2 := 209) (L2 := [some (.ref 59), some (.int v1), some (.int v2), some (.int v3), some (.int (v4 + (1 : Int32))), some (.int s0), some (.int v6)]) (fun Q => g_iinc d_M_citizens_206 rfl (congrArg (fun z => v4 + z) (by decide)) (Nat.le_of_ble_eq_true rfl) rfl) ?_
    refine S.of1 (pc2 := 69) (fun Q => g_goto d_M_citizens_209 rfl) ?_
    exact S.wk (L2 := [some (.ref 59), some (.int v1), some (.int v2), some (.int v3), some (.int (v4 + (1 : Int32))), some (.int s0), none]) (And.intro rfl (And.intro rfl (And.intro rfl (And.intro rfl (And.intro rfl (And.intro rfl trivial)))))) (hk69 v1 v2 v3 (v4 + (1 : Int32)) s0 s20)
def f_M_citizens_j166 (k69 : Int32 → Int32 → Int32 → Int32 → Int32 → gS → Option (Int32 × gS)) (v1 : Int32) (v2 : Int32) (v3 : Int32) (v4 : Int32) (v6 : Int32) (σ : gS) : Option (Int32 × gS) :=
  f_M_citizens_j167 k69 v1 v2 v3 v4 v6 (0 : Int32) σ
theorem s_M_citizens_j166 (d : Nat) (hd : 3 ≤ d) (k69 : Int32 → Int32 → Int32 → Int32 → Int32 → gS → Option (Int32 × gS)) (hk69 : ∀ (v1 : Int32) (v2 : Int32) (v3 : Int32) (v4 : Int32) (v5 : Int32) (τ : gS), S wI m_M_citizens d 69 [some (.ref 59), some (.int v1), some (.int v2), some (.int v3), some (.int v4), some (.int v5), none] [] τ (k69 v1 v2 v3 v4 v5 τ)) (v1 : Int32) (v2 : Int32) (v3 : Int32) (v4 : Int32) (v6 : Int32) (σ : gS) : S wI m_M_citizens d 166 [some (.ref 59), some (.int v1), some (.int v2), some (.int v3), some (.int v4), none, some (.int v6)] [] σ (f_M_citizens_j166 k69 v1 v2 v3 v4 v6 σ) := by
  unfold f_M_citizens_j166
  refine S.of1 (pc2 := 167) (fun Q => g_iconst (v := (0 : Int32)) d_M_citizens_166 (by decide)) ?_
  exact S.wk (L2 := [some (.ref 59), some (.int v1), some (.int v2), some (.int v3), some (.int v4), none, some (.int v6)]) (And.intro rfl (And.intro rfl (And.intro rfl (And.intro rfl (And.intro rfl (And.intro rfl trivial)))))) (s_M_citizens_j167 d hd k69 hk69 v1 v2 v3 v4 v6 (0 : Int32) σ)
def f_M_citizens_j111 (k69 : Int32 → Int32 → Int32 → Int32 → Int32 → gS → Option (Int32 × gS)) (v1 : Int32) (v2 : Int32) (v3 : Int32) (v4 : Int32) (s0 : Int32) (σ : gS) : Option (Int32 × gS) :=
  glt ((((60 : Int32) * v1) + v2) + ((3 : Int32) * v4)) fun x14 => if s0 = 0 then f_M_citizens_j166 k69 v1 v2 v3 v4 x14 σ else if gix x14 360 then if gix (x14 + (1 : Int32)) 360 then if gix (x14 + (2 : Int32)) 360 then (f_M_mayCome (σ.2 78 x14.toNatClampNeg) (σ.2 78 (x14 + (1 : Int32)).toNatClampNeg) (σ.2 78 (x14 + (2 : Int32)).toNatClampNeg)).bind fun q24 => if q24 = 0 then f_M_citizens_j166 k69 v1 v2 v3 v4 x14 σ else f_M_citizens_j167 k69 v1 v2 v3 v4 x14 (1 : Int32) σ else none else none else none
theorem s_M_citizens_j111 (d : Nat) (hd : 3 ≤ d) (k69 : Int32 → Int32 → Int32 → Int32 → Int32 → gS → Option (Int32 × gS)) (hk69 : ∀ (v1 : Int32) (v2 : Int32) (v3 : Int32) (v4 : Int32) (v5 : Int32) (τ : gS), S wI m_M_citizens d 69 [some (.ref 59), some (.int v1), some (.int v2), some (.int v3), some (.int v4), some (.int v5), none] [] τ (k69 v1 v2 v3 v4 v5 τ)) (v1 : Int32) (v2 : Int32) (v3 : Int32) (v4 : Int32) (s0 : Int32) (σ : gS) : S wI m_M_citizens d 111 [some (.ref 59), some (.int v1), some (.int v2), some (.int v3), some (.int v4), none, none] [.int s0] σ (f_M_citizens_j111 k69 v1 v2 v3 v4 s0 σ) := by
  unfold f_M_citizens_j111
  refine S.of1 (pc2 := 113) (L2 := [some (.ref 59), some (.int v1), some (.int v2), some (.int v3), some (.int v4), some (.int s0), none]) (fun Q => g_istore d_M_citizens_111 (Nat.le_of_ble_eq_true rfl) rfl) ?_
  refine S.of1 (pc2 := 115) (fun Q => g_bipush (v := (60 : Int32)) d_M_citizens_113 (by decide)) ?_
  refine S.of1 (pc2 := 116) (fun Q => g_iload_n d_M_citizens_115 rfl) ?_
  refine S.of1 (pc2 := 117) (fun Q => g_imul d_M_citizens_116) ?_
  refine S.of1 (pc2 := 118) (fun Q => g_iload_n d_M_citizens_117 rfl) ?_
  refine S.of1 (pc2 := 119) (fun Q => g_iadd d_M_citizens_118) ?_
  refine S.of1 (pc2 := 120) (fun Q => g_iconst (v := (3 : Int32)) d_M_citizens_119 (by decide)) ?_
  refine S.of1 (pc2 := 122) (fun Q => g_iload d_M_citizens_120 rfl) ?_
  refine S.of1 (pc2 := 123) (fun Q => g_imul d_M_citizens_122) ?_
  refine S.of1 (pc2 := 124) (fun Q => g_iadd d_M_citizens_123) ?_
  refine S.of1 (pc2 := 126) (L2 := [some (.ref 59), some (.int v1), some (.int v2), some (.int v3), some (.int v4), some (.int s0), some (.int ((((60 : Int32) * v1) + v2) + ((3 : Int32) * v4)))]) (fun Q => g_istore d_M_citizens_124 (Nat.le_of_ble_eq_true rfl) rfl) ?_
  refine S.glt (x := ((((60 : Int32) * v1) + v2) + ((3 : Int32) * v4))) (Lf := fun y => [some (.ref 59), some (.int v1), some (.int v2), some (.int v3), some (.int v4), some (.int s0), some (.int y)]) (fun x14 => ?_)
  refine S.of1 (pc2 := 128) (fun Q => g_iload d_M_citizens_126 rfl) ?_
  refine S.br (c := s0 = 0) (t := 166) (e := 131) (fun Q kt kf => g_if_eq d_M_citizens_128 rfl kt kf) (fun h15 => ?_) (fun h15 => ?_)
  · exact S.wk (L2 := [some (.ref 59), some (.int v1), some (.int v2), some (.int v3), some (.int v4), none, some (.int x14)]) (And.intro rfl (And.intro rfl (And.intro rfl (And.intro rfl (And.intro rfl (And.intro rfl trivial)))))) (s_M_citizens_j166 d hd k69 hk69 v1 v2 v3 v4 x14 σ)
  · refine S.of1 (pc2 := 132) (fun Q => g_aload_n d_M_citizens_131 rfl) ?_
    refine S.of1 (pc2 := 135) (fun Q => g_getr fl_RX11_64 gc_59_38 d_M_citizens_132) ?_
    refine S.of1 (pc2 := 137) (fun Q => g_iload d_M_citizens_135 rfl) ?_
    refine S.chk (fun h21 => ?_)
    refine S.of1 (pc2 := 138) (fun Q => g_lald ga_78 (gix_in h21) d_M_citizens_137) ?_
    refine S.of1 (pc2 := 139) (fun Q => g_aload_n d_M_citizens_138 rfl) ?_
    refine S.of1 (pc2 := 142) (fun Q => g_getr fl_RX11_64 gc_59_38 d_M_citizens_139) ?_
    refine S.of1 (pc2 := 144) (fun Q => g_iload d_M_citizens_142 rfl) ?_
    refine S.of1 (pc2 := 145) (fun Q => g_iconst (v := (1 : Int32)) d_M_citizens_144 (by decide)) ?_
    refine S.of1 (pc2 := 146) (fun Q => g_iadd d_M_citizens_145) ?_
    refine S.chk (fun h22 => ?_)
    refine S.of1 (pc2 := 147) (fun Q => g_lald ga_78 (gix_in h22) d_M_citizens_146) ?_
    refine S.of1 (pc2 := 148) (fun Q => g_aload_n d_M_citizens_147 rfl) ?_
    refine S.of1 (pc2 := 151) (fun Q => g_getr fl_RX11_64 gc_59_38 d_M_citizens_148) ?_
    refine S.of1 (pc2 := 153) (fun Q => g_iload d_M_citizens_151 rfl) ?_
    refine S.of1 (pc2 := 154) (fun Q => g_iconst (v := (2 : Int32)) d_M_citizens_153 (by decide)) ?_
    refine S.of1 (pc2 := 155) (fun Q => g_iadd d_M_citizens_154) ?_
    refine S.chk (fun h23 => ?_)
    refine S.of1 (pc2 := 156) (fun Q => g_lald ga_78 (gix_in h23) d_M_citizens_155) ?_
    refine S.call_rI (pc3 := 159) rfl (c_M_mayCome (d - 1) (by omega) (σ.2 78 x14.toNatClampNeg) (σ.2 78 (x14 + (1 : Int32)).toNatClampNeg) (σ.2 78 (x14 + (2 : Int32)).toNatClampNeg) σ) (fun Q => g_callS (M2 := m_M_mayCome) (vs := [.long (σ.2 78 x14.toNatClampNeg), .long (σ.2 78 (x14 + (1 : Int32)).toNatClampNeg), .long (σ.2 78 (x14 + (2 : Int32)).toNatClampNeg)]) (st := []) ls_RX11_96 rfl (Nat.le_of_ble_eq_true rfl) (by omega) (Nat.le_of_ble_eq_true rfl) rfl d_M_citizens_156) (fun q24 => ?_)
    refine S.br (c := q24 = 0) (t := 166) (e := 162) (fun Q kt kf => g_if_eq d_M_citizens_159 rfl kt kf) (fun h25 => ?_) (fun h25 => ?_)
    · exact S.wk (L2 := [some (.ref 59), some (.int v1), some (.int v2), some (.int v3), some (.int v4), none, some (.int x14)]) (And.intro rfl (And.intro rfl (And.intro rfl (And.intro rfl (And.intro rfl (And.intro rfl trivial)))))) (s_M_citizens_j166 d hd k69 hk69 v1 v2 v3 v4 x14 σ)
    · refine S.of1 (pc2 := 163) (fun Q => g_iconst (v := (1 : Int32)) d_M_citizens_162 (by decide)) ?_
      refine S.of1 (pc2 := 167) (fun Q => g_goto d_M_citizens_163 rfl) ?_
      exact S.wk (L2 := [some (.ref 59), some (.int v1), some (.int v2), some (.int v3), some (.int v4), none, some (.int x14)]) (And.intro rfl (And.intro rfl (And.intro rfl (And.intro rfl (And.intro rfl (And.intro rfl trivial)))))) (s_M_citizens_j167 d hd k69 hk69 v1 v2 v3 v4 x14 (1 : Int32) σ)
def f_M_citizens_j110 (k69 : Int32 → Int32 → Int32 → Int32 → Int32 → gS → Option (Int32 × gS)) (v1 : Int32) (v2 : Int32) (v3 : Int32) (v4 : Int32) (σ : gS) : Option (Int32 × gS) :=
  f_M_citizens_j111 k69 v1 v2 v3 v4 (0 : Int32) σ
theorem s_M_citizens_j110 (d : Nat) (hd : 3 ≤ d) (k69 : Int32 → Int32 → Int32 → Int32 → Int32 → gS → Option (Int32 × gS)) (hk69 : ∀ (v1 : Int32) (v2 : Int32) (v3 : Int32) (v4 : Int32) (v5 : Int32) (τ : gS), S wI m_M_citizens d 69 [some (.ref 59), some (.int v1), some (.int v2), some (.int v3), some (.int v4), some (.int v5), none] [] τ (k69 v1 v2 v3 v4 v5 τ)) (v1 : Int32) (v2 : Int32) (v3 : Int32) (v4 : Int32) (σ : gS) : S wI m_M_citizens d 110 [some (.ref 59), some (.int v1), some (.int v2), some (.int v3), some (.int v4), none, none] [] σ (f_M_citizens_j110 k69 v1 v2 v3 v4 σ) := by
  unfold f_M_citizens_j110
  refine S.of1 (pc2 := 111) (fun Q => g_iconst (v := (0 : Int32)) d_M_citizens_110 (by decide)) ?_
  exact S.wk (L2 := [some (.ref 59), some (.int v1), some (.int v2), some (.int v3), some (.int v4), none, none]) (And.intro rfl (And.intro rfl (And.intro rfl (And.intro rfl (And.intro rfl trivial))))) (s_M_citizens_j111 d hd k69 hk69 v1 v2 v3 v4 (0 : Int32) σ)
def f_M_citizens_L69 : Nat → Int32 → Int32 → Int32 → Int32 → Int32 → gS → Option (Int32 × gS)
  | 0, _, _, _, _, _, _ => none
  | n + 1, v1, v2, v3, v4, v5, σ =>
  if v5 = 0 then some (v4, σ) else if v3 ≤ v4 then some (v4, σ) else if gix v1 6 then if (((σ.1 77 v1.toNatClampNeg) - (3 : Int32)) - ((3 : Int32) * v4)) < v2 then f_M_citizens_j110 (fun v1 v2 v3 v4 v5 σ => f_M_citizens_L69 n v1 v2 v3 v4 v5 σ) v1 v2 v3 v4 σ else if (10 : Int32) ≤ (σ.1 59 6) then f_M_citizens_j110 (fun v1 v2 v3 v4 v5 σ => f_M_citizens_L69 n v1 v2 v3 v4 v5 σ) v1 v2 v3 v4 σ else f_M_citizens_j111 (fun v1 v2 v3 v4 v5 σ => f_M_citizens_L69 n v1 v2 v3 v4 v5 σ) v1 v2 v3 v4 (1 : Int32) σ else none
theorem s_M_citizens_L69 (d : Nat) (hd : 3 ≤ d) : ∀ (n : Nat) (v1 : Int32) (v2 : Int32) (v3 : Int32) (v4 : Int32) (v5 : Int32) (σ : gS), S wI m_M_citizens d 69 [some (.ref 59), some (.int v1), some (.int v2), some (.int v3), some (.int v4), some (.int v5), none] [] σ (f_M_citizens_L69 n v1 v2 v3 v4 v5 σ) := by
  intro n
  induction n with
  | zero =>
    intros
    unfold f_M_citizens_L69
    exact S.no
  | succ n ih =>
    intro v1 v2 v3 v4 v5 σ
    unfold f_M_citizens_L69
    refine S.of1 (pc2 := 71) (fun Q => g_iload d_M_citizens_69 rfl) ?_
    refine S.br (c := v5 = 0) (t := 212) (e := 74) (fun Q kt kf => g_if_eq d_M_citizens_71 rfl kt kf) (fun h10 => ?_) (fun h10 => ?_)
    · refine S.of1 (pc2 := 214) (fun Q => g_iload d_M_citizens_212 rfl) ?_
      exact S.ret (fun Q hq => g_iret rfl d_M_citizens_214 hq)
    · refine S.of1 (pc2 := 76) (fun Q => g_iload d_M_citizens_74 rfl) ?_
      refine S.of1 (pc2 := 77) (fun Q => g_iload_n d_M_citizens_76 rfl) ?_
      refine S.br (c := v3 ≤ v4) (t := 212) (e := 80) (fun Q kt kf => g_icmp_ge d_M_citizens_77 rfl kt kf) (fun h11 => ?_) (fun h11 => ?_)
      · refine S.of1 (pc2 := 214) (fun Q => g_iload d_M_citizens_212 rfl) ?_
        exact S.ret (fun Q hq => g_iret rfl d_M_citizens_214 hq)
      · refine S.of1 (pc2 := 81) (fun Q => g_iload_n d_M_citizens_80 rfl) ?_
        refine S.of1 (pc2 := 82) (fun Q => g_aload_n d_M_citizens_81 rfl) ?_
        refine S.of1 (pc2 := 85) (fun Q => g_getr fl_RX11_61 gc_59_37 d_M_citizens_82) ?_
        refine S.of1 (pc2 := 86) (fun Q => g_iload_n d_M_citizens_85 rfl) ?_
        refine S.chk (fun h12 => ?_)
        refine S.of1 (pc2 := 87) (fun Q => g_iald ga_77 (gix_in h12) d_M_citizens_86) ?_
        refine S.of1 (pc2 := 88) (fun Q => g_iconst (v := (3 : Int32)) d_M_citizens_87 (by decide)) ?_
        refine S.of1 (pc2 := 89) (fun Q => g_isub d_M_citizens_88) ?_
        refine S.of1 (pc2 := 90) (fun Q => g_iconst (v := (3 : Int32)) d_M_citizens_89 (by decide)) ?_
        refine S.of1 (pc2 := 92) (fun Q => g_iload d_M_citizens_90 rfl) ?_
        refine S.of1 (pc2 := 93) (fun Q => g_imul d_M_citizens_92) ?_
        refine S.of1 (pc2 := 94) (fun Q => g_isub d_M_citizens_93) ?_
        refine S.br (c := (((σ.1 77 v1.toNatClampNeg) - (3 : Int32)) - ((3 : Int32) * v4)) < v2) (t := 110) (e := 97) (fun Q kt kf => g_icmp_gt d_M_citizens_94 rfl kt kf) (fun h13 => ?_) (fun h13 => ?_)
        · exact S.wk (L2 := [some (.ref 59), some (.int v1), some (.int v2), some (.int v3), some (.int v4), none, none]) (And.intro rfl (And.intro rfl (And.intro rfl (And.intro rfl (And.intro rfl trivial))))) (s_M_citizens_j110 d hd (fun v1 v2 v3 v4 v5 σ => f_M_citizens_L69 n v1 v2 v3 v4 v5 σ) (fun v1 v2 v3 v4 v5 τ => ih v1 v2 v3 v4 v5 τ) v1 v2 v3 v4 σ)
        · refine S.of1 (pc2 := 98) (fun Q => g_aload_n d_M_citizens_97 rfl) ?_
          refine S.of1 (pc2 := 101) (fun Q => g_geti fl_RX11_81 gc_59_6 d_M_citizens_98) ?_
          refine S.of1 (pc2 := 103) (fun Q => g_bipush (v := (10 : Int32)) d_M_citizens_101 (by decide)) ?_
          refine S.br (c := (10 : Int32) ≤ (σ.1 59 6)) (t := 110) (e := 106) (fun Q kt kf => g_icmp_ge d_M_citizens_103 rfl kt kf) (fun h26 => ?_) (fun h26 => ?_)
          · exact S.wk (L2 := [some (.ref 59), some (.int v1), some (.int v2), some (.int v3), some (.int v4), none, none]) (And.intro rfl (And.intro rfl (And.intro rfl (And.intro rfl (And.intro rfl trivial))))) (s_M_citizens_j110 d hd (fun v1 v2 v3 v4 v5 σ => f_M_citizens_L69 n v1 v2 v3 v4 v5 σ) (fun v1 v2 v3 v4 v5 τ => ih v1 v2 v3 v4 v5 τ) v1 v2 v3 v4 σ)
          · refine S.of1 (pc2 := 107) (fun Q => g_iconst (v := (1 : Int32)) d_M_citizens_106 (by decide)) ?_
            refine S.of1 (pc2 := 111) (fun Q => g_goto d_M_citizens_107 rfl) ?_
            exact S.wk (L2 := [some (.ref 59), some (.int v1), some (.int v2), some (.int v3), some (.int v4), none, none]) (And.intro rfl (And.intro rfl (And.intro rfl (And.intro rfl (And.intro rfl trivial))))) (s_M_citizens_j111 d hd (fun v1 v2 v3 v4 v5 σ => f_M_citizens_L69 n v1 v2 v3 v4 v5 σ) (fun v1 v2 v3 v4 v5 τ => ih v1 v2 v3 v4 v5 τ) v1 v2 v3 v4 (1 : Int32) σ)
def f_M_citizens_j67 (v1 : Int32) (v2 : Int32) (v3 : Int32) (v4 : Int32) (s0 : Int32) (σ : gS) : Option (Int32 × gS) :=
  f_M_citizens_L69 gfu v1 v2 v3 v4 s0 σ
theorem s_M_citizens_j67 (d : Nat) (hd : 3 ≤ d) (v1 : Int32) (v2 : Int32) (v3 : Int32) (v4 : Int32) (s0 : Int32) (σ : gS) : S wI m_M_citizens d 67 [some (.ref 59), some (.int v1), some (.int v2), some (.int v3), some (.int v4), none, none] [.int s0] σ (f_M_citizens_j67 v1 v2 v3 v4 s0 σ) := by
  unfold f_M_citizens_j67
  refine S.of1 (pc2 := 69) (L2 := [some (.ref 59), some (.int v1), some (.int v2), some (.int v3), some (.int v4), some (.int s0), none]) (fun Q => g_istore d_M_citizens_67 (Nat.le_of_ble_eq_true rfl) rfl) ?_
  exact S.wk (L2 := [some (.ref 59), some (.int v1), some (.int v2), some (.int v3), some (.int v4), some (.int s0), none]) (And.intro rfl (And.intro rfl (And.intro rfl (And.intro rfl (And.intro rfl (And.intro rfl trivial)))))) (s_M_citizens_L69 d hd gfu v1 v2 v3 v4 s0 σ)
def f_M_citizens_j66 (v1 : Int32) (v2 : Int32) (v3 : Int32) (v4 : Int32) (σ : gS) : Option (Int32 × gS) :=
  f_M_citizens_j67 v1 v2 v3 v4 (0 : Int32) σ
theorem s_M_citizens_j66 (d : Nat) (hd : 3 ≤ d) (v1 : Int32) (v2 : Int32) (v3 : Int32) (v4 : Int32) (σ : gS) : S wI m_M_citizens d 66 [some (.ref 59), some (.int v1), some (.int v2), some (.int v3), some (.int v4), none, none] [] σ (f_M_citizens_j66 v1 v2 v3 v4 σ) := by
  unfold f_M_citizens_j66
  refine S.of1 (pc2 := 67) (fun Q => g_iconst (v := (0 : Int32)) d_M_citizens_66 (by decide)) ?_
  exact S.wk (L2 := [some (.ref 59), some (.int v1), some (.int v2), some (.int v3), some (.int v4), none, none]) (And.intro rfl (And.intro rfl (And.intro rfl (And.intro rfl (And.intro rfl trivial))))) (s_M_citizens_j67 d hd v1 v2 v3 v4 (0 : Int32) σ)
def f_M_citizens_j44 (v1 : Int32) (v2 : Int32) (v3 : Int32) (σ : gS) : Option (Int32 × gS) :=
  if gix v1 6 then if (σ.1 76 v1.toNatClampNeg) = (50 : Int32) then if v2 < 0 then f_M_citizens_j66 v1 v2 v3 (0 : Int32) σ else f_M_citizens_j67 v1 v2 v3 (0 : Int32) (1 : Int32) σ else f_M_citizens_j66 v1 v2 v3 (0 : Int32) σ else none
theorem s_M_citizens_j44 (d : Nat) (hd : 3 ≤ d) (v1 : Int32) (v2 : Int32) (v3 : Int32) (σ : gS) : S wI m_M_citizens d 44 [some (.ref 59), some (.int v1), some (.int v2), some (.int v3), none, none, none] [] σ (f_M_citizens_j44 v1 v2 v3 σ) := by
  unfold f_M_citizens_j44
  refine S.of1 (pc2 := 45) (fun Q => g_iconst (v := (0 : Int32)) d_M_citizens_44 (by decide)) ?_
  refine S.of1 (pc2 := 47) (L2 := [some (.ref 59), some (.int v1), some (.int v2), some (.int v3), some (.int (0 : Int32)), none, none]) (fun Q => g_istore d_M_citizens_45 (Nat.le_of_ble_eq_true rfl) rfl) ?_
  refine S.of1 (pc2 := 48) (fun Q => g_aload_n d_M_citizens_47 rfl) ?_
  refine S.of1 (pc2 := 51) (fun Q => g_getr fl_RX11_58 gc_59_36 d_M_citizens_48) ?_
  refine S.of1 (pc2 := 52) (fun Q => g_iload_n d_M_citizens_51 rfl) ?_
  refine S.chk (fun h7 => ?_)
  refine S.of1 (pc2 := 53) (fun Q => g_iald ga_76 (gix_in h7) d_M_citizens_52) ?_
  refine S.of1 (pc2 := 55) (fun Q => g_bipush (v := (50 : Int32)) d_M_citizens_53 (by decide)) ?_
  refine S.br (c := (σ.1 76 v1.toNatClampNeg) = (50 : Int32)) (t := 58) (e := 66) (fun Q kt kf => g_icmp_ne d_M_citizens_55 rfl kf kt) (fun h8 => ?_) (fun h8 => ?_)
  · refine S.of1 (pc2 := 59) (fun Q => g_iload_n d_M_citizens_58 rfl) ?_
    refine S.br (c := v2 < 0) (t := 66) (e := 62) (fun Q kt kf => g_if_lt d_M_citizens_59 rfl kt kf) (fun h9 => ?_) (fun h9 => ?_)
    · exact S.wk (L2 := [some (.ref 59), some (.int v1), some (.int v2), some (.int v3), some (.int (0 : Int32)), none, none]) (And.intro rfl (And.intro rfl (And.intro rfl (And.intro rfl (And.intro rfl trivial))))) (s_M_citizens_j66 d hd v1 v2 v3 (0 : Int32) σ)
    · refine S.of1 (pc2 := 63) (fun Q => g_iconst (v := (1 : Int32)) d_M_citizens_62 (by decide)) ?_
      refine S.of1 (pc2 := 67) (fun Q => g_goto d_M_citizens_63 rfl) ?_
      exact S.wk (L2 := [some (.ref 59), some (.int v1), some (.int v2), some (.int v3), some (.int (0 : Int32)), none, none]) (And.intro rfl (And.intro rfl (And.intro rfl (And.intro rfl (And.intro rfl trivial))))) (s_M_citizens_j67 d hd v1 v2 v3 (0 : Int32) (1 : Int32) σ)
  · exact S.wk (L2 := [some (.ref 59), some (.int v1), some (.int v2), some (.int v3), some (.int (0 : Int32)), none, none]) (And.intro rfl (And.intro rfl (And.intro rfl (And.intro rfl (And.intro rfl trivial))))) (s_M_citizens_j66 d hd v1 v2 v3 (0 : Int32) σ)
def f_M_citizens (v1 : Int32) (v2 : Int32) (v3 : Int32) (σ : gS) : Option (Int32 × gS) :=
  (f_M_isShelf v1).bind fun q1 => if q1 = 0 then some ((-1 : Int32), σ) else (f_M_within (v3.toInt64) (1 : Int64) (10 : Int64)).bind fun q3 => if q3 = 0 then some ((-1 : Int32), σ) else if gix v1 6 then if (σ.1 76 v1.toNatClampNeg) < 0 then f_M_citizens_j44 v1 v2 v3 σ else if gix v1 6 then if (σ.1 76 v1.toNatClampNeg) = (50 : Int32) then f_M_citizens_j44 v1 v2 v3 σ else some ((-12 : Int32), σ) else none else none
theorem c_M_citizens (d : Nat) (hd : 3 ≤ d) (v1 : Int32) (v2 : Int32) (v3 : Int32) (σ : gS) : C wI d m_M_citizens [.ref 59, .int v1, .int v2, .int v3] σ (f_M_citizens v1 v2 v3 σ) := by
  unfold f_M_citizens
  refine C.of (by decide +kernel) (Nat.le_of_ble_eq_true rfl) (L := [some (.ref 59), some (.int v1), some (.int v2), some (.int v3), none, none, none]) rfl ?_
  refine S.of1 (pc2 := 1) (fun Q => g_iload_n d_M_citizens_0 rfl) ?_
  refine S.call_rI (pc3 := 4) rfl (c_M_isShelf (d - 1) (by omega) v1 σ) (fun Q => g_callS (M2 := m_M_isShelf) (vs := [.int v1]) (st := []) ls_RX11_103 rfl (Nat.le_of_ble_eq_true rfl) (by omega) (Nat.le_of_ble_eq_true rfl) rfl d_M_citizens_1) (fun q1 => ?_)
  refine S.br (c := q1 = 0) (t := 19) (e := 7) (fun Q kt kf => g_if_eq d_M_citizens_4 rfl kt kf) (fun h2 => ?_) (fun h2 => ?_)
  · refine S.of1 (pc2 := 20) (fun Q => g_iconst (v := (-1 : Int32)) d_M_citizens_19 (by decide)) ?_
    exact S.ret (fun Q hq => g_iret rfl d_M_citizens_20 hq)
  · refine S.of1 (pc2 := 8) (fun Q => g_iload_n d_M_citizens_7 rfl) ?_
    refine S.of1 (pc2 := 9) (fun Q => g_i2l d_M_citizens_8) ?_
    refine S.of1 (pc2 := 10) (fun Q => g_lconst (v := (1 : Int64)) d_M_citizens_9 (by decide)) ?_
    refine S.of1 (pc2 := 13) (fun Q => g_ldc2 (v := (10 : Int64)) d_M_citizens_10 w_1289) ?_
    refine S.call_rI (pc3 := 16) rfl (c_M_within (d - 1) (by omega) (v3.toInt64) (1 : Int64) (10 : Int64) σ) (fun Q => g_callS (M2 := m_M_within) (vs := [.long (v3.toInt64), .long (1 : Int64), .long (10 : Int64)]) (st := []) ls_RX11_84 rfl (Nat.le_of_ble_eq_true rfl) (by omega) (Nat.le_of_ble_eq_true rfl) rfl d_M_citizens_13) (fun q3 => ?_)
    refine S.br (c := q3 = 0) (t := 19) (e := 21) (fun Q kt kf => g_if_ne d_M_citizens_16 rfl kf kt) (fun h4 => ?_) (fun h4 => ?_)
    · refine S.of1 (pc2 := 20) (fun Q => g_iconst (v := (-1 : Int32)) d_M_citizens_19 (by decide)) ?_
      exact S.ret (fun Q hq => g_iret rfl d_M_citizens_20 hq)
    · refine S.of1 (pc2 := 22) (fun Q => g_aload_n d_M_citizens_21 rfl) ?_
      refine S.of1 (pc2 := 25) (fun Q => g_getr fl_RX11_58 gc_59_36 d_M_citizens_22) ?_
      refine S.of1 (pc2 := 26) (fun Q => g_iload_n d_M_citizens_25 rfl) ?_
      refine S.chk (fun h5 => ?_)
      refine S.of1 (pc2 := 27) (fun Q => g_iald ga_76 (gix_in h5) d_M_citizens_26) ?_
      refine S.br (c := (σ.1 76 v1.toNatClampNeg) < 0) (t := 44) (e := 30) (fun Q kt kf => g_if_lt d_M_citizens_27 rfl kt kf) (fun h6 => ?_) (fun h6 => ?_)
      · exact S.wk (L2 := [some (.ref 59), some (.int v1), some (.int v2), some (.int v3), none, none, none]) (And.intro rfl (And.intro rfl (And.intro rfl (And.intro rfl trivial)))) (s_M_citizens_j44 d hd v1 v2 v3 σ)
      · refine S.of1 (pc2 := 31) (fun Q => g_aload_n d_M_citizens_30 rfl) ?_
        refine S.of1 (pc2 := 34) (fun Q => g_getr fl_RX11_58 gc_59_36 d_M_citizens_31) ?_
        refine S.of1 (pc2 := 35) (fun Q => g_iload_n d_M_citizens_34 rfl) ?_
        refine S.chk (fun h27 => ?_)
        refine S.of1 (pc2 := 36) (fun Q => g_iald ga_76 (gix_in h27) d_M_citizens_35) ?_
        refine S.of1 (pc2 := 38) (fun Q => g_bipush (v := (50 : Int32)) d_M_citizens_36 (by decide)) ?_
        refine S.br (c := (σ.1 76 v1.toNatClampNeg) = (50 : Int32)) (t := 44) (e := 41) (fun Q kt kf => g_icmp_eq d_M_citizens_38 rfl kt kf) (fun h28 => ?_) (fun h28 => ?_)
        · exact S.wk (L2 := [some (.ref 59), some (.int v1), some (.int v2), some (.int v3), none, none, none]) (And.intro rfl (And.intro rfl (And.intro rfl (And.intro rfl trivial)))) (s_M_citizens_j44 d hd v1 v2 v3 σ)
        · refine S.of1 (pc2 := 43) (fun Q => g_bipush (v := (-12 : Int32)) d_M_citizens_41 (by decide)) ?_
          exact S.ret (fun Q hq => g_iret rfl d_M_citizens_43 hq)
