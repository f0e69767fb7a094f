def f_M_playsFrom_j202 (kplaysFrom : Int32 → Int32 → Int32 → Int32 → gS → Option (Int32 × gS)) (k43 : Int32 → Int32 → Int32 → Int32 → Int32 → Int32 → gS → Option (Int32 × gS)) (v1 : Int32) (v2 : Int32) (v3 : Int32) (v4 : Int32) (v6 : Int32) (s0 : Int32) (σ : gS) : Option (Int32 × gS) :=
  k43 v1 v2 v3 v4 s0 (v6 + (1 : Int32)) σ
theorem s_M_playsFrom_j202 (D : Nat) (hD : 2 ≤ D) (kplaysFrom : Int32 → Int32 → Int32 → Int32 → gS → Option (Int32 × gS)) (hkplaysFrom : ∀ (d : Nat) (_ : D ≤ d) (v1 : Int32) (v2 : Int32) (v3 : Int32) (v4 : Int32) (σ : gS), C wI d m_M_playsFrom [.ref 59, .int v1, .int v2, .int v3, .int v4] σ (kplaysFrom v1 v2 v3 v4 σ)) (d : Nat) (hd : D + 1 ≤ d) (k43 : Int32 → Int32 → Int32 → Int32 → Int32 → Int32 → gS → Option (Int32 × gS)) (hk43 : ∀ (v1 : Int32) (v2 : Int32) (v3 : Int32) (v4 : Int32) (v5 : Int32) (v6 : Int32) (τ : gS), S wI m_M_playsFrom d 43 [some (.ref 59), some (.int v1), some (.int v2), some (.int v3), some (.int v4), some (.int v5), some (.int v6), none, none] [] τ (k43 v1 v2 v3 v4 v5 v6 τ)) (v1 : Int32) (v2 : Int32) (v3 : Int32) (v4 : Int32) (v6 : Int32) (s0 : Int32) (σ : gS) : S wI m_M_playsFrom d 202 [some (.ref 59), some (.int v1), some (.int v2), some (.int v3), some (.int v4), none, some (.int v6), none, none] [.int s0] σ (f_M_playsFrom_j202 kplaysFrom k43 v1 v2 v3 v4 v6 s0 σ) := by
  unfold f_M_playsFrom_j202
  refine S.of1 (pc2 := 204) (L2 := [some (.ref 59), some (.int v1), some (.int v2), some (.int v3), some (.int v4), some (.int s0), some (.int v6), none, none]) (fun Q => g_istore d_M_playsFrom_202 (Nat.le_of_ble_eq_true rfl) rfl) ?_
  refine S.of1 (pc2 := 207) (L2 := [some (.ref 59), some (.int v1), some (.int v2), some (.int v3), some (.int v4), some (.int s0), some (.int (v6 + (1 : Int32))), none, none]) (fun Q => g_iinc d_M_playsFrom_204 rfl (congrArg (fun z => v6 + z) (by decide)) (Nat.le_of_ble_eq_true rfl) rfl) ?_
  refine S.of1 (pc2 := 43) (fun Q => g_goto d_M_playsFrom_207 rfl) ?_
  exact S.wk (L2 := [some (.ref 59), some (.int v1), some (.int v2), some (.int v3), some (.int v4), some (.int s0), some (.int (v6 + (1 : Int32))), none, none]) (And.intro rfl (And.intro rfl (And.intro rfl (And.intro rfl (And.intro rfl (And.intro rfl (And.intro rfl trivial))))))) (hk43 v1 v2 v3 v4 s0 (v6 + (1 : Int32)) σ)
def f_M_playsFrom_j153 (kplaysFrom : Int32 → Int32 → Int32 → Int32 → gS → Option (Int32 × gS)) (k43 : Int32 → Int32 → Int32 → Int32 → Int32 → Int32 → gS → Option (Int32 × gS)) (v1 : Int32) (v2 : Int32) (v3 : Int32) (v4 : Int32) (v5 : Int32) (v6 : Int32) (v7 : Int32) (s0 : Int32) (s1 : Int32) (σ : gS) : Option (Int32 × gS) :=
  if gix v6 10 then gup (gpi σ 67 v6.toNatClampNeg v7) fun s21 => if (grem v2 (2 : Int32)) = 0 then if (s1 + s0) ≤ v5 then f_M_playsFrom_j202 kplaysFrom k43 v1 v2 v3 v4 v6 v5 s21 else f_M_playsFrom_j202 kplaysFrom k43 v1 v2 v3 v4 v6 (s1 + s0) s21 else if v5 ≤ (s1 + s0) then f_M_playsFrom_j202 kplaysFrom k43 v1 v2 v3 v4 v6 v5 s21 else f_M_playsFrom_j202 kplaysFrom k43 v1 v2 v3 v4 v6 (s1 + s0) s21 else none
theorem s_M_playsFrom_j153 (D : Nat) (hD : 2 ≤ D) (kplaysFrom : Int32 → Int32 → Int32 → Int32 → gS → Option (Int32 × gS)) (hkplaysFrom : ∀ (d : Nat) (_ : D ≤ d) (v1 : Int32) (v2 : Int32) (v3 : Int32) (v4 : Int32) (σ : gS), C wI d m_M_playsFrom [.ref 59, .int v1, .int v2, .int v3, .int v4] σ (kplaysFrom v1 v2 v3 v4 σ)) (d : Nat) (hd : D + 1 ≤ d) (k43 : Int32 → Int32 → Int32 → Int32 → Int32 → Int32 → gS → Option (Int32 × gS)) (hk43 : ∀ (v1 : Int32) (v2 : Int32) (v3 : Int32) (v4 : Int32) (v5 : Int32) (v6 : Int32) (τ : gS), S wI m_M_playsFrom d 43 [some (.ref 59), some (.int v1), some (.int v2), some (.int v3), some (.int v4), some (.int v5), some (.int v6), none, none] [] τ (k43 v1 v2 v3 v4 v5 v6 τ)) (v1 : Int32) (v2 : Int32) (v3 : Int32) (v4 : Int32) (v5 : Int32) (v6 : Int32) (v7 : Int32) (s0 : Int32) (s1 : Int32) (σ : gS) : S wI m_M_playsFrom d 153 [some (.ref 59), some (.int v1), some (.int v2), some (.int v3), some (.int v4), some (.int v5), some (.int v6), some (.int v7), none] [.int s0, .int s1] σ (f_M_playsFrom_j153 kplaysFrom k43 v1 v2 v3 v4 v5 v6 v7 s0 s1 σ) := by
  unfold f_M_playsFrom_j153
  refine S.of1 (pc2 := 154) (fun Q => g_iadd d_M_playsFrom_153) ?_
  refine S.of1 (pc2 := 156) (L2 := [some (.ref 59), some (.int v1), some (.int v2), some (.int v3), some (.int v4), some (.int v5), some (.int v6), some (.int v7), some (.int (s1 + s0))]) (fun Q => g_istore d_M_playsFrom_154 (Nat.le_of_ble_eq_true rfl) rfl) ?_
  refine S.of1 (pc2 := 157) (fun Q => g_aload_n d_M_playsFrom_156 rfl) ?_
  refine S.of1 (pc2 := 160) (fun Q => g_getr fl_RX11_31 gc_59_17 d_M_playsFrom_157) ?_
  refine S.of1 (pc2 := 162) (fun Q => g_iload d_M_playsFrom_160 rfl) ?_
  refine S.of1 (pc2 := 164) (fun Q => g_iload d_M_playsFrom_162 rfl) ?_
  refine S.chk (fun h20 => ?_)
  refine S.of1 (pc2 := 165) (fun Q => g_iast ga_67 (gix_in h20) d_M_playsFrom_164) ?_
  refine S.gup (fun s21 => ?_)
  refine S.of1 (pc2 := 166) (fun Q => g_iload_n d_M_playsFrom_165 rfl) ?_
  refine S.of1 (pc2 := 167) (fun Q => g_iconst (v := (2 : Int32)) d_M_playsFrom_166 (by decide)) ?_
  refine S.of1 (pc2 := 168) (fun Q => g_irem d_M_playsFrom_167 (by decide)) ?_
  refine S.br (c := (grem v2 (2 : Int32)) = 0) (t := 171) (e := 188) (fun Q kt kf => g_if_ne d_M_playsFrom_168 rfl kf kt) (fun h22 => ?_) (fun h22 => ?_)
  · refine S.of1 (pc2 := 173) (fun Q => g_iload d_M_playsFrom_171 rfl) ?_
    refine S.of1 (pc2 := 175) (fun Q => g_iload d_M_playsFrom_173 rfl) ?_
    refine S.br (c := (s1 + s0) ≤ v5) (t := 183) (e := 178) (fun Q kt kf => g_icmp_le d_M_playsFrom_175 rfl kt kf) (fun h23 => ?_) (fun h23 => ?_)
    · refine S.of1 (pc2 := 185) (fun Q => g_iload d_M_playsFrom_183 rfl) ?_
      refine S.of1 (pc2 := 202) (fun Q => g_goto d_M_playsFrom_185 rfl) ?_
      exact S.wk (L2 := [some (.ref 59), some (.int v1), some (.int v2), some (.int v3), some (.int v4), none, some (.int v6), none, none]) (And.intro rfl (And.intro rfl (And.intro rfl (And.intro rfl (And.intro rfl (And.intro rfl trivial)))))) (s_M_playsFrom_j202 D hD kplaysFrom hkplaysFrom d hd k43 hk43 v1 v2 v3 v4 v6 v5 s21)
    · refine S.of1 (pc2 := 180) (fun Q => g_iload d_M_playsFrom_178 rfl) ?_
      refine S.of1 (pc2 := 202) (fun Q => g_goto d_M_playsFrom_180 rfl) ?_
      exact S.wk (L2 := [some (.ref 59), some (.int v1), some (.int v2), some (.int v3), some (.int v4), none, some (.int v6), none, none]) (And.intro rfl (And.intro rfl (And.intro rfl (And.intro rfl (And.intro rfl (And.intro rfl trivial)))))) (s_M_playsFrom_j202 D hD kplaysFrom hkplaysFrom d hd k43 hk43 v1 v2 v3 v4 v6 (s1 + s0) s21)
  · refine S.of1 (pc2 := 190) (fun Q => g_iload d_M_playsFrom_188 rfl) ?_
    refine S.of1 (pc2 := 192) (fun Q => g_iload d_M_playsFrom_190 rfl) ?_
    refine S.br (c := v5 ≤ (s1 + s0)) (t := 200) (e := 195) (fun Q kt kf => g_icmp_ge d_M_playsFrom_192 rfl kt kf) (fun h24 => ?_) (fun h24 => ?_)
    · refine S.of1 (pc2 := 202) (fun Q => g_iload d_M_playsFrom_200 rfl) ?_
      exact S.wk (L2 := [some (.ref 59), some (.int v1), some (.int v2), some (.int v3), some (.int v4), none, some (.int v6), none, none]) (And.intro rfl (And.intro rfl (And.intro rfl (And.intro rfl (And.intro rfl (And.intro rfl trivial)))))) (s_M_playsFrom_j202 D hD kplaysFrom hkplaysFrom d hd k43 hk43 v1 v2 v3 v4 v6 v5 s21)
    · refine S.of1 (pc2 := 197) (fun Q => g_iload d_M_playsFrom_195 rfl) ?_
      refine S.of1 (pc2 := 202) (fun Q => g_goto d_M_playsFrom_197 rfl) ?_
      exact S.wk (L2 := [some (.ref 59), some (.int v1), some (.int v2), some (.int v3), some (.int v4), none, some (.int v6), none, none]) (And.intro rfl (And.intro rfl (And.intro rfl (And.intro rfl (And.intro rfl (And.intro rfl trivial)))))) (s_M_playsFrom_j202 D hD kplaysFrom hkplaysFrom d hd k43 hk43 v1 v2 v3 v4 v6 (s1 + s0) s21)
def f_M_playsFrom_j106 (kplaysFrom : Int32 → Int32 → Int32 → Int32 → gS → Option (Int32 × gS)) (k43 : Int32 → Int32 → Int32 → Int32 → Int32 → Int32 → gS → Option (Int32 × gS)) (v1 : Int32) (v2 : Int32) (v3 : Int32) (v4 : Int32) (v5 : Int32) (v6 : Int32) (v7 : Int32) (s0 : Int32) (s1 : Int32) (σ : gS) : Option (Int32 × gS) :=
  if gix s1 10 then gup (gpi σ 67 s1.toNatClampNeg s0) fun s16 => (kplaysFrom v1 (v2 + (1 : Int32)) v3 (v4 ||| ((1 : Int32) <<< (v6 &&& 31))) s16).bind fun q17 => if (grem v2 (2 : Int32)) = 0 then if gix ((20 : Int32) + v6) 43 then f_M_playsFrom_j153 kplaysFrom k43 v1 v2 v3 v4 v5 v6 v7 (-(q17.2.1 60 ((20 : Int32) + v6).toNatClampNeg)) q17.1 q17.2 else none else if gix ((20 : Int32) + v6) 43 then f_M_playsFrom_j153 kplaysFrom k43 v1 v2 v3 v4 v5 v6 v7 (q17.2.1 60 ((20 : Int32) + v6).toNatClampNeg) q17.1 q17.2 else none else none
theorem s_M_playsFrom_j106 (D : Nat) (hD : 2 ≤ D) (kplaysFrom : Int32 → Int32 → Int32 → Int32 → gS → Option (Int32 × gS)) (hkplaysFrom : ∀ (d : Nat) (_ : D ≤ d) (v1 : Int32) (v2 : Int32) (v3 : Int32) (v4 : Int32) (σ : gS), C wI d m_M_playsFrom [.ref 59, .int v1, .int v2, .int v3, .int v4] σ (kplaysFrom v1 v2 v3 v4 σ)) (d : Nat) (hd : D + 1 ≤ d) (k43 : Int32 → Int32 → Int32 → Int32 → Int32 → Int32 → gS → Option (Int32 × gS)) (hk43 : ∀ (v1 : Int32) (v2 : Int32) (v3 : Int32) (v4 : Int32) (v5 : Int32) (v6 : Int32) (τ : gS), S wI m_M_playsFrom d 43 [some (.ref 59), some (.int v1), some (.int v2), some (.int v3), some (.int v4), some (.int v5), some (.int v6), none, none] [] τ (k43 v1 v2 v3 v4 v5 v6 τ)) (v1 : Int32) (v2 : Int32) (v3 : Int32) (v4 : Int32) (v5 : Int32) (v6 : Int32) (v7 : Int32) (s0 : Int32) (s1 : Int32) (σ : gS) : S wI m_M_playsFrom d 106 [some (.ref 59), some (.int v1), some (.int v2), some (.int v3), some (.int v4), some (.int v5), some (.int v6), some (.int v7), none] [.int s0, .int s1, .ref 67] σ (f_M_playsFrom_j106 kplaysFrom k43 v1 v2 v3 v4 v5 v6 v7 s0 s1 σ) := by
  unfold f_M_playsFrom_j106
  refine S.chk (fun h15 => ?_)
  refine S.of1 (pc2 := 107) (fun Q => g_iast ga_67 (gix_in h15) d_M_playsFrom_106) ?_
  refine S.gup (fun s16 => ?_)
  refine S.of1 (pc2 := 108) (fun Q => g_aload_n d_M_playsFrom_107 rfl) ?_
  refine S.of1 (pc2 := 109) (fun Q => g_iload_n d_M_playsFrom_108 rfl) ?_
  refine S.of1 (pc2 := 110) (fun Q => g_iload_n d_M_playsFrom_109 rfl) ?_
  refine S.of1 (pc2 := 111) (fun Q => g_iconst (v := (1 : Int32)) d_M_playsFrom_110 (by decide)) ?_
  refine S.of1 (pc2 := 112) (fun Q => g_iadd d_M_playsFrom_111) ?_
  refine S.of1 (pc2 := 113) (fun Q => g_iload_n d_M_playsFrom_112 rfl) ?_
  refine S.of1 (pc2 := 115) (fun Q => g_iload d_M_playsFrom_113 rfl) ?_
  refine S.of1 (pc2 := 116) (fun Q => g_iconst (v := (1 : Int32)) d_M_playsFrom_115 (by decide)) ?_
  refine S.of1 (pc2 := 118) (fun Q => g_iload d_M_playsFrom_116 rfl) ?_
  refine S.of1 (pc2 := 119) (fun Q => g_ishl d_M_playsFrom_118) ?_
  refine S.of1 (pc2 := 120) (fun Q => g_ior d_M_playsFrom_119) ?_
  refine S.call_wI (pc3 := 123) rfl (hkplaysFrom (d - 1) (by omega) v1 (v2 + (1 : Int32)) v3 (v4 ||| ((1 : Int32) <<< (v6 &&& 31))) s16) (fun Q => g_callV (M2 := m_M_playsFrom) (vs := [.int v1, .int (v2 + (1 : Int32)), .int v3, .int (v4 ||| ((1 : Int32) <<< (v6 &&& 31)))]) (st := []) lv_RX11_270 gk_59 rfl rfl (Nat.le_of_ble_eq_true rfl) (by omega) (Nat.le_of_ble_eq_true rfl) rfl d_M_playsFrom_120) (fun q17 => ?_)
  refine S.of1 (pc2 := 124) (fun Q => g_iload_n d_M_playsFrom_123 rfl) ?_
  refine S.of1 (pc2 := 125) (fun Q => g_iconst (v := (2 : Int32)) d_M_playsFrom_124 (by decide)) ?_
  refine S.of1 (pc2 := 126) (fun Q => g_irem d_M_playsFrom_125 (by decide)) ?_
  refine S.br (c := (grem v2 (2 : Int32)) = 0) (t := 129) (e := 143) (fun Q kt kf => g_if_ne d_M_playsFrom_126 rfl kf kt) (fun h18 => ?_) (fun h18 => ?_)
  · refine S.of1 (pc2 := 130) (fun Q => g_aload_n d_M_playsFrom_129 rfl) ?_
    refine S.of1 (pc2 := 133) (fun Q => g_getr fl_RX11_9 gc_59_0 d_M_playsFrom_130) ?_
    refine S.of1 (pc2 := 135) (fun Q => g_bipush (v := (20 : Int32)) d_M_playsFrom_133 (by decide)) ?_
    refine S.of1 (pc2 := 137) (fun Q => g_iload d_M_playsFrom_135 rfl) ?_
    refine S.of1 (pc2 := 138) (fun Q => g_iadd d_M_playsFrom_137) ?_
    refine S.chk (fun h19 => ?_)
    refine S.of1 (pc2 := 139) (fun Q => g_iald ga_60 (gix_in h19) d_M_playsFrom_138) ?_
    refine S.of1 (pc2 := 140) (fun Q => g_ineg d_M_playsFrom_139) ?_
    refine S.of1 (pc2 := 153) (fun Q => g_goto d_M_playsFrom_140 rfl) ?_
    exact S.wk (L2 := [some (.ref 59), some (.int v1), some (.int v2), some (.int v3), some (.int v4), some (.int v5), some (.int v6), some (.int v7), none]) (And.intro rfl (And.intro rfl (And.intro rfl (And.intro rfl (And.intro rfl (And.intro rfl (And.intro rfl (And.intro rfl trivial)))))))) (s_M_playsFrom_j153 D hD kplaysFrom hkplaysFrom d hd k43 hk43 v1 v2 v3 v4 v5 v6 v7 (-(q17.2.1 60 ((20 : Int32) + v6).toNatClampNeg)) q17.1 q17.2)
  · refine S.of1 (pc2 := 144) (fun Q => g_aload_n d_M_playsFrom_143 rfl) ?_
    refine S.of1 (pc2 := 147) (fun Q => g_getr fl_RX11_9 gc_59_0 d_M_playsFrom_144) ?_
    refine S.of1 (pc2 := 149) (fun Q => g_bipush (v := (20 : Int32)) d_M_playsFrom_147 (by decide)) ?_
    refine S.of1 (pc2 := 151) (fun Q => g_iload d_M_playsFrom_149 rfl) ?_
    refine S.of1 (pc2 := 152) (fun Q => g_iadd d_M_playsFrom_151) ?_
    refine S.chk (fun h25 => ?_)
    refine S.of1 (pc2 := 153) (fun Q => g_iald ga_60 (gix_in h25) d_M_playsFrom_152) ?_
    exact S.wk (L2 := [some (.ref 59), some (.int v1), some (.int v2), some (.int v3), some (.int v4), some (.int v5), some (.int v6), some (.int v7), none]) (And.intro rfl (And.intro rfl (And.intro rfl (And.intro rfl (And.intro rfl (And.intro rfl (And.intro rfl (And.intro rfl trivial)))))))) (s_M_playsFrom_j153 D hD kplaysFrom hkplaysFrom d hd k43 hk43 v1 v2 v3 v4 v5 v6 v7 (q17.2.1 60 ((20 : Int32) + v6).toNatClampNeg) q17.1 q17.2)
def f_M_playsFrom_L43 (kplaysFrom : Int32 → Int32 → Int32 → Int32 → gS → Option (Int32 × gS)) : Nat → Int32 → Int32 → Int32 → Int32 → Int32 → Int32 → gS → Option (Int32 × gS)
  | 0, _, _, _, _, _, _, _ => none
  | n + 1, v1, v2, v3, v4, v5, v6, σ =>
  if (σ.1 59 6) ≤ v6 then some (v5, σ) else if gix ((30 : Int32) + v6) 43 then if 0 ≤ (σ.1 60 ((30 : Int32) + v6).toNatClampNeg) then (fun v1 v2 v3 v4 v5 v6 σ => f_M_playsFrom_L43 kplaysFrom n v1 v2 v3 v4 v5 v6 σ) v1 v2 v3 v4 v5 (v6 + (1 : Int32)) σ else (f_M_isIn v4 v6).bind fun q10 => if q10 = 0 then if gix v6 10 then glt (σ.1 67 v6.toNatClampNeg) fun x13 => if (grem v2 (2 : Int32)) = 0 then f_M_playsFrom_j106 kplaysFrom (fun v1 v2 v3 v4 v5 v6 σ => f_M_playsFrom_L43 kplaysFrom n v1 v2 v3 v4 v5 v6 σ) v1 v2 v3 v4 v5 v6 x13 v1 v6 σ else f_M_playsFrom_j106 kplaysFrom (fun v1 v2 v3 v4 v5 v6 σ => f_M_playsFrom_L43 kplaysFrom n v1 v2 v3 v4 v5 v6 σ) v1 v2 v3 v4 v5 v6 x13 (grem (v1 + (1 : Int32)) (6 : Int32)) v6 σ else none else (fun v1 v2 v3 v4 v5 v6 σ => f_M_playsFrom_L43 kplaysFrom n v1 v2 v3 v4 v5 v6 σ) v1 v2 v3 v4 v5 (v6 + (1 : Int32)) σ else none
theorem s_M_playsFrom_L43 (D : Nat) (hD : 2 ≤ D) (kplaysFrom : Int32 → Int32 → Int32 → Int32 → gS → Option (Int32 × gS)) (hkplaysFrom : ∀ (d : Nat) (_ : D ≤ d) (v1 : Int32) (v2 : Int32) (v3 : Int32) (v4 : Int32) (σ : gS), C wI d m_M_playsFrom [.ref 59, .int v1, .int v2, .int v3, .int v4] σ (kplaysFrom v1 v2 v3 v4 σ)) (d : Nat) (hd : D + 1 ≤ d) : ∀ (n : Nat) (v1 : Int32) (v2 : Int32) (v3 : Int32) (v4 : Int32) (v5 : Int32) (v6 : Int32) (σ : gS), S wI m_M_playsFrom d 43 [some (.ref 59), some (.int v1), some (.int v2), some (.int v3), some (.int v4), some (.int v5), some (.int v6), none, none] [] σ (f_M_playsFrom_L43 kplaysFrom n v1 v2 v3 v4 v5 v6 σ) := by
  intro n
  induction n with
  | zero =>
    intros
    unfold f_M_playsFrom_L43
    exact S.no
  | succ n ih =>
    intro v1 v2 v3 v4 v5 v6 σ
    unfold f_M_playsFrom_L43
    refine S.of1 (pc2 := 45) (fun Q => g_iload d_M_playsFrom_43 rfl) ?_
    refine S.of1 (pc2 := 46) (fun Q => g_aload_n d_M_playsFrom_45 rfl) ?_
    refine S.of1 (pc2 := 49) (fun Q => g_geti fl_RX11_81 gc_59_6 d_M_playsFrom_46) ?_
    refine S.br (c := (σ.1 59 6) ≤ v6) (t := 210) (e := 52) (fun Q kt kf => g_icmp_ge d_M_playsFrom_49 rfl kt kf) (fun h7 => ?_) (fun h7 => ?_)
    · refine S.of1 (pc2 := 212) (fun Q => g_iload d_M_playsFrom_210 rfl) ?_
      exact S.ret (fun Q hq => g_iret rfl d_M_playsFrom_212 hq)
    · refine S.of1 (pc2 := 53) (fun Q => g_aload_n d_M_playsFrom_52 rfl) ?_
      refine S.of1 (pc2 := 56) (fun Q => g_getr fl_RX11_9 gc_59_0 d_M_playsFrom_53) ?_
      refine S.of1 (pc2 := 58) (fun Q => g_bipush (v := (30 : Int32)) d_M_playsFrom_56 (by decide)) ?_
      refine S.of1 (pc2 := 60) (fun Q => g_iload d_M_playsFrom_58 rfl) ?_
      refine S.of1 (pc2 := 61) (fun Q => g_iadd d_M_playsFrom_60) ?_
      refine S.chk (fun h8 => ?_)
      refine S.of1 (pc2 := 62) (fun Q => g_iald ga_60 (gix_in h8) d_M_playsFrom_61) ?_
      refine S.br (c := 0 ≤ (σ.1 60 ((30 : Int32) + v6).toNatClampNeg)) (t := 204) (e := 65) (fun Q kt kf => g_if_ge d_M_playsFrom_62 rfl kt kf) (fun h9 => ?_) (fun h9 => ?_)
      · refine S.of1 (pc2 := 207) (L2 := [some (.ref 59), some (.int v1), some (.int v2), some (.int v3), some (.int v4), some (.int v5), some (.int (v6 + (1 : Int32))), none, none]) (fun Q => g_iinc d_M_playsFrom_204 rfl (congrArg (fun z => v6 + z) (by decide)) (Nat.le_of_ble_eq_true rfl) rfl) ?_
        refine S.of1 (pc2 := 43) (fun Q => g_goto d_M_playsFrom_207 rfl) ?_
        exact S.wk (L2 := [some (.ref 59), some (.int v1), some (.int v2), some (.int v3), some (.int v4), some (.int v5), some (.int (v6 + (1 : Int32))), none, none]) (And.intro rfl (And.intro rfl (And.intro rfl (And.intro rfl (And.intro rfl (And.intro rfl (And.intro rfl trivial))))))) (ih v1 v2 v3 v4 v5 (v6 + (1 : Int32)) σ)
      · refine S.of1 (pc2 := 67) (fun Q => g_iload d_M_playsFrom_65 rfl) ?_
        refine S.of1 (pc2 := 69) (fun Q => g_iload d_M_playsFrom_67 rfl) ?_
        refine S.call_rI (pc3 := 72) rfl (c_M_isIn (d - 1) (by omega) v4 v6 σ) (fun Q => g_callS (M2 := m_M_isIn) (vs := [.int v4, .int v6]) (st := []) ls_RX11_199 rfl (Nat.le_of_ble_eq_true rfl) (by omega) (Nat.le_of_ble_eq_true rfl) rfl d_M_playsFrom_69) (fun q10 => ?_)
        refine S.br (c := q10 = 0) (t := 75) (e := 204) (fun Q kt kf => g_if_ne d_M_playsFrom_72 rfl kf kt) (fun h11 => ?_) (fun h11 => ?_)
        · refine S.of1 (pc2 := 76) (fun Q => g_aload_n d_M_playsFrom_75 rfl) ?_
          refine S.of1 (pc2 := 79) (fun Q => g_getr fl_RX11_31 gc_59_17 d_M_playsFrom_76) ?_
          refine S.of1 (pc2 := 81) (fun Q => g_iload d_M_playsFrom_79 rfl) ?_
          refine S.chk (fun h12 => ?_)
          refine S.of1 (pc2 := 82) (fun Q => g_iald ga_67 (gix_in h12) d_M_playsFrom_81) ?_
          refine S.of1 (pc2 := 84) (L2 := [some (.ref 59), some (.int v1), some (.int v2), some (.int v3), some (.int v4), some (.int v5), some (.int v6), some (.int (σ.1 67 v6.toNatClampNeg)), none]) (fun Q => g_istore d_M_playsFrom_82 (Nat.le_of_ble_eq_true rfl) rfl) ?_
          refine S.glt (x := (σ.1 67 v6.toNatClampNeg)) (Lf := fun y => [some (.ref 59), some (.int v1), some (.int v2), some (.int v3), some (.int v4), some (.int v5), some (.int v6), some (.int y), none]) (fun x13 => ?_)
          refine S.of1 (pc2 := 85) (fun Q => g_aload_n d_M_playsFrom_84 rfl) ?_
          refine S.of1 (pc2 := 88) (fun Q => g_getr fl_RX11_31 gc_59_17 d_M_playsFrom_85) ?_
          refine S.of1 (pc2 := 90) (fun Q => g_iload d_M_playsFrom_88 rfl) ?_
          refine S.of1 (pc2 := 91) (fun Q => g_iload_n d_M_playsFrom_90 rfl) ?_
          refine S.of1 (pc2 := 92) (fun Q => g_iconst (v := (2 : Int32)) d_M_playsFrom_91 (by decide)) ?_
          refine S.of1 (pc2 := 93) (fun Q => g_irem d_M_playsFrom_92 (by decide)) ?_
          refine S.br (c := (grem v2 (2 : Int32)) = 0) (t := 96) (e := 100) (fun Q kt kf => g_if_ne d_M_playsFrom_93 rfl kf kt) (fun h14 => ?_) (fun h14 => ?_)
          · refine S.of1 (pc2 := 97) (fun Q => g_iload_n d_M_playsFrom_96 rfl) ?_
            refine S.of1 (pc2 := 106) (fun Q => g_goto d_M_playsFrom_97 rfl) ?_
            exact S.wk (L2 := [some (.ref 59), some (.int v1), some (.int v2), some (.int v3), some (.int v4), some (.int v5), some (.int v6), some (.int x13), none]) (And.intro rfl (And.intro rfl (And.intro rfl (And.intro rfl (And.intro rfl (And.intro rfl (And.intro rfl (And.intro rfl trivial)))))))) (s_M_playsFrom_j106 D hD kplaysFrom hkplaysFrom d hd (fun v1 v2 v3 v4 v5 v6 σ => f_M_playsFrom_L43 kplaysFrom n v1 v2 v3 v4 v5 v6 σ) (fun v1 v2 v3 v4 v5 v6 τ => ih v1 v2 v3 v4 v5 v6 τ) v1 v2 v3 v4 v5 v6 x13 v1 v6 σ)
          · refine S.of1 (pc2 := 101) (fun Q => g_iload_n d_M_playsFrom_100 rfl) ?_
            refine S.of1 (pc2 := 102) (fun Q => g_iconst (v := (1 : Int32)) d_M_playsFrom_101 (by decide)) ?_
            refine S.of1 (pc2 := 103) (fun Q => g_iadd d_M_playsFrom_102) ?_
            refine S.of1 (pc2 := 105) (fun Q => g_bipush (v := (6 : Int32)) d_M_playsFrom_103 (by decide)) ?_
            refine S.of1 (pc2 := 106) (fun Q => g_irem d_M_playsFrom_105 (by decide)) ?_
            exact S.wk (L2 := [some (.ref 59), some (.int v1), some (.int v2), some (.int v3), some (.int v4), some (.int v5), some (.int v6), some (.int x13), none]) (And.intro rfl (And.intro rfl (And.intro rfl (And.intro rfl (And.intro rfl (And.intro rfl (And.intro rfl (And.intro rfl trivial)))))))) (s_M_playsFrom_j106 D hD kplaysFrom hkplaysFrom d hd (fun v1 v2 v3 v4 v5 v6 σ => f_M_playsFrom_L43 kplaysFrom n v1 v2 v3 v4 v5 v6 σ) (fun v1 v2 v3 v4 v5 v6 τ => ih v1 v2 v3 v4 v5 v6 τ) v1 v2 v3 v4 v5 v6 x13 (grem (v1 + (1 : Int32)) (6 : Int32)) v6 σ)
        · refine S.of1 (pc2 := 207) (L2 := [some (.ref 59), some (.int v1), some (.int v2), some (.int v3), some (.int v4), some (.int v5), some (.int (v6 + (1 : Int32))), none, none]) (fun Q => g_iinc d_M_playsFrom_204 rfl (congrArg (fun z => v6 + z) (by decide)) (Nat.le_of_ble_eq_true rfl) rfl) ?_
          refine S.of1 (pc2 := 43) (fun Q => g_goto d_M_playsFrom_207 rfl) ?_
          exact S.wk (L2 := [some (.ref 59), some (.int v1), some (.int v2), some (.int v3), some (.int v4), some (.int v5), some (.int (v6 + (1 : Int32))), none, none]) (And.intro rfl (And.intro rfl (And.intro rfl (And.intro rfl (And.intro rfl (And.intro rfl (And.intro rfl trivial))))))) (ih v1 v2 v3 v4 v5 (v6 + (1 : Int32)) σ)
def fo_M_playsFrom (kplaysFrom : Int32 → Int32 → Int32 → Int32 → gS → Option (Int32 × gS)) (v1 : Int32) (v2 : Int32) (v3 : Int32) (v4 : Int32) (σ : gS) : Option (Int32 × gS) :=
  if v2 = v3 then (f_M_everybody σ).bind fun q2 => (f_M_happenedBy q2 σ).bind fun q3 => (f_M_isIn q3 v1).bind fun q4 => if q4 = 0 then some ((0 : Int32), σ) else some ((100 : Int32), σ) else (kplaysFrom v1 (v2 + (1 : Int32)) v3 v4 σ).bind fun q6 => f_M_playsFrom_L43 kplaysFrom gfu v1 v2 v3 v4 q6.1 (0 : Int32) q6.2
theorem co_M_playsFrom (D : Nat) (hD : 2 ≤ D) (kplaysFrom : Int32 → Int32 → Int32 → Int32 → gS → Option (Int32 × gS)) (hkplaysFrom : ∀ (d : Nat) (_ : D ≤ d) (v1 : Int32) (v2 : Int32) (v3 : Int32) (v4 : Int32) (σ : gS), C wI d m_M_playsFrom [.ref 59, .int v1, .int v2, .int v3, .int v4] σ (kplaysFrom v1 v2 v3 v4 σ)) (d : Nat) (hd : D + 1 ≤ d) (v1 : Int32) (v2 : Int32) (v3 : Int32) (v4 : Int32) (σ : gS) : C wI d m_M_playsFrom [.ref 59, .int v1, .int v2, .int v3, .int v4] σ (fo_M_playsFrom kplaysFrom v1 v2 v3 v4 σ) := by
  unfold fo_M_playsFrom
  refine C.of (by decide +kernel) (Nat.le_of_ble_eq_true rfl) (L := [some (.ref 59), some (.int v1), some (.int v2), some (.int v3), some (.int v4), none, none, none, none]) rfl ?_
  refine S.of1 (pc2 := 1) (fun Q => g_iload_n d_M_playsFrom_0 rfl) ?_
  refine S.of1 (pc2 := 2) (fun Q => g_iload_n d_M_playsFrom_1 rfl) ?_
  refine S.br (c := v2 = v3) (t := 5) (e := 27) (fun Q kt kf => g_icmp_ne d_M_playsFrom_2 rfl kf kt) (fun h1 => ?_) (fun h1 => ?_)
  · refine S.of1 (pc2 := 6) (fun Q => g_aload_n d_M_playsFrom_5 rfl) ?_
    refine S.of1 (pc2 := 7) (fun Q => g_aload_n d_M_playsFrom_6 rfl) ?_
    refine S.call_rI (pc3 := 10) rfl (c_M_everybody (d - 1) (by omega) σ) (fun Q => g_callV (M2 := m_M_everybody) (vs := []) (st := [.ref 59]) lv_RX11_211 gk_59 rfl rfl (Nat.le_of_ble_eq_true rfl) (by omega) (Nat.le_of_ble_eq_true rfl) rfl d_M_playsFrom_7) (fun q2 => ?_)
    refine S.call_rI (pc3 := 13) rfl (c_M_happenedBy (d - 1) (by omega) q2 σ) (fun Q => g_callV (M2 := m_M_happenedBy) (vs := [.int q2]) (st := []) lv_RX11_214 gk_59 rfl rfl (Nat.le_of_ble_eq_true rfl) (by omega) (Nat.le_of_ble_eq_true rfl) rfl d_M_playsFrom_10) (fun q3 => ?_)
    refine S.of1 (pc2 := 14) (fun Q => g_iload_n d_M_playsFrom_13 rfl) ?_
    refine S.call_rI (pc3 := 17) rfl (c_M_isIn (d - 1) (by omega) q3 v1 σ) (fun Q => g_callS (M2 := m_M_isIn) (vs := [.int q3, .int v1]) (st := []) ls_RX11_199 rfl (Nat.le_of_ble_eq_true rfl) (by omega) (Nat.le_of_ble_eq_true rfl) rfl d_M_playsFrom_14) (fun q4 => ?_)
    refine S.br (c := q4 = 0) (t := 25) (e := 20) (fun Q kt kf => g_if_eq d_M_playsFrom_17 rfl kt kf) (fun h5 => ?_) (fun h5 => ?_)
    · refine S.of1 (pc2 := 26) (fun Q => g_iconst (v := (0 : Int32)) d_M_playsFrom_25 (by decide)) ?_
      exact S.ret (fun Q hq => g_iret rfl d_M_playsFrom_26 hq)
    · refine S.of1 (pc2 := 22) (fun Q => g_bipush (v := (100 : Int32)) d_M_playsFrom_20 (by decide)) ?_
      refine S.of1 (pc2 := 26) (fun Q => g_goto d_M_playsFrom_22 rfl) ?_
      exact S.ret (fun Q hq => g_iret rfl d_M_playsFrom_26 hq)
  · refine S.of1 (pc2 := 28) (fun Q => g_aload_n d_M_playsFrom_27 rfl) ?_
    refine S.of1 (pc2 := 29) (fun Q => g_iload_n d_M_playsFrom_28 rfl) ?_
    refine S.of1 (pc2 := 30) (fun Q => g_iload_n d_M_playsFrom_29 rfl) ?_
    refine S.of1 (pc2 := 31) (fun Q => g_iconst (v := (1 : Int32)) d_M_playsFrom_30 (by decide)) ?_
    refine S.of1 (pc2 := 32) (fun Q => g_iadd d_M_playsFrom_31) ?_
    refine S.of1 (pc2 := 33) (fun Q => g_iload_n d_M_playsFrom_32 rfl) ?_
    refine S.of1 (pc2 := 35) (fun Q => g_iload d_M_playsFrom_33 rfl) ?_
    refine S.call_wI (pc3 := 38) rfl (hkplaysFrom (d - 1) (by omega) v1 (v2 + (1 : Int32)) v3 v4 σ) (fun Q => g_callV (M2 := m_M_playsFrom) (vs := [.int v1, .int (v2 + (1 : Int32)), .int v3, .int v4]) (st := []) lv_RX11_270 gk_59 rfl rfl (Nat.le_of_ble_eq_true rfl) (by omega) (Nat.le_of_ble_eq_true rfl) rfl d_M_playsFrom_35) (fun q6 => ?_)
    refine S.of1 (pc2 := 40) (L2 := [some (.ref 59), some (.int v1), some (.int v2), some (.int v3), some (.int v4), some (.int q6.1), none, none, none]) (fun Q => g_istore d_M_playsFrom_38 (Nat.le_of_ble_eq_true rfl) rfl) ?_
    refine S.of1 (pc2 := 41) (fun Q => g_iconst (v := (0 : Int32)) d_M_playsFrom_40 (by decide)) ?_
    refine S.of1 (pc2 := 43) (L2 := [some (.ref 59), some (.int v1), some (.int v2), some (.int v3), some (.int v4), some (.int q6.1), some (.int (0 : Int32)), none, none]) (fun Q => g_istore d_M_playsFrom_41 (Nat.le_of_ble_eq_true rfl) rfl) ?_
    exact S.wk (L2 := [some (.ref 59), some (.int v1), some (.int v2), some (.int v3), some (.int v4), some (.int q6.1), some (.int (0 : Int32)), none, none]) (And.intro rfl (And.intro rfl (And.intro rfl (And.intro rfl (And.intro rfl (And.intro rfl (And.intro rfl trivial))))))) (s_M_playsFrom_L43 D hD kplaysFrom hkplaysFrom d hd gfu v1 v2 v3 v4 q6.1 (0 : Int32) q6.2)
def f_M_playsFrom : Nat → Int32 → Int32 → Int32 → Int32 → gS → Option (Int32 × gS)
  | 0, _, _, _, _, _ => none
  | n + 1, v1, v2, v3, v4, σ => fo_M_playsFrom (fun v1 v2 v3 v4 σ => f_M_playsFrom n v1 v2 v3 v4 σ) v1 v2 v3 v4 σ
theorem c_M_playsFrom : ∀ (n d : Nat) (_ : 2 + 1 * n ≤ d) (v1 : Int32) (v2 : Int32) (v3 : Int32) (v4 : Int32) (σ : gS), C wI d m_M_playsFrom [.ref 59, .int v1, .int v2, .int v3, .int v4] σ (f_M_playsFrom n v1 v2 v3 v4 σ) := by
  intro n
  induction n with
  | zero =>
    intros
    unfold f_M_playsFrom
    intro a Q h1 _
    cases h1
  | succ n ih =>
    intro d hd v1 v2 v3 v4 σ
    unfold f_M_playsFrom
    exact co_M_playsFrom (2 + 1 * n) (by omega) _ (fun d hd v1 v2 v3 v4 σ => ih d hd v1 v2 v3 v4 σ) d (by omega) v1 v2 v3 v4 σ
def f_M_byTurns_j155 (k78 : Int32 → Int32 → Int32 → Int32 → Int32 → gS → Option (Int32 × gS)) (v1 : Int32) (v2 : Int32) (v4 : Int32) (v6 : Int32) (v7 : Int32) (s0 : Int32) (σ : gS) : Option (Int32 × gS) :=
  if gix v6 10 then gup (gpi σ 67 v6.toNatClampNeg v7) fun s24 => k78 v1 v2 v4 s0 (v6 + (1 : Int32)) s24 else none
theorem s_M_byTurns_j155 (d : Nat) (hd : 60 ≤ d) (k78 : Int32 → Int32 → Int32 → Int32 → Int32 → gS → Option (Int32 × gS)) (hk78 : ∀ (v1 : Int32) (v2 : Int32) (v4 : Int32) (v5 : Int32) (v6 : Int32) (τ : gS), S wI m_M_byTurns d 78 [some (.ref 59), some (.int v1), some (.int v2), none, some (.int v4), some (.int v5), some (.int v6), none] [] τ (k78 v1 v2 v4 v5 v6 τ)) (v1 : Int32) (v2 : Int32) (v4 : Int32) (v6 : Int32) (v7 : Int32) (s0 : Int32) (σ : gS) : S wI m_M_byTurns d 155 [some (.ref 59), some (.int v1), some (.int v2), none, some (.int v4), none, some (.int v6), some (.int v7)] [.int s0] σ (f_M_byTurns_j155 k78 v1 v2 v4 v6 v7 s0 σ) := by
  unfold f_M_byTurns_j155
  refine S.of1 (pc2 := 157) (L2 := [some (.ref 59), some (.int v1), some (.int v2), none, some (.int v4), some (.int s0), some (.int v6), some (.int v7)]) (fun Q => g_istore d_M_byTurns_155 (Nat.le_of_ble_eq_true rfl) rfl) ?_
  refine S.of1 (pc2 := 158) (fun Q => g_aload_n d_M_byTurns_157 rfl) ?_
  refine S.of1 (pc2 := 161) (fun Q => g_getr fl_RX11_31 gc_59_17 d_M_byTurns_158) ?_
  refine S.of1 (pc2 := 163) (fun Q => g_iload d_M_byTurns_161 rfl) ?_
  refine S.of1 (pc2 := 165) (fun Q => g_iload d_M_byTurns_163 rfl) ?_
  refine S.chk (fun h23 => ?_)
  refine S.of1 (pc2 := 166) (fun Q => g_iast ga_67 (gix_in h23) d_M_byTurns_165) ?_
  refine S.gup (fun s24 => ?_)
  refine S.of1 (pc2 := 169) (L2 := [some (.ref 59), some (.int v1), some (.int v2), none, some (.int v4), some (.int s0), some (.int (v6 + (1 : Int32))), some (.int v7)]) (fun Q => g_iinc d_M_byTurns_166 rfl (congrArg (fun z => v6 + z) (by decide)) (Nat.le_of_ble_eq_true rfl) rfl) ?_
  refine S.of1 (pc2 := 78) (fun Q => g_goto d_M_byTurns_169 rfl) ?_
  exact S.wk (L2 := [some (.ref 59), some (.int v1), some (.int v2), none, some (.int v4), some (.int s0), some (.int (v6 + (1 : Int32))), none]) (And.intro rfl (And.intro rfl (And.intro rfl (And.intro rfl (And.intro rfl (And.intro rfl trivial)))))) (hk78 v1 v2 v4 s0 (v6 + (1 : Int32)) s24)
def f_M_byTurns_L78 : Nat → Int32 → Int32 → Int32 → Int32 → Int32 → gS → Option (Int32 × gS)
  | 0, _, _, _, _, _, _ => none
  | n + 1, v1, v2, v4, v5, v6, σ =>
  if (σ.1 59 6) ≤ v6 then some (v5, σ) else if 0 ≤ v5 then some (v5, σ) else if gix ((30 : Int32) + v6) 43 then if 0 ≤ (σ.1 60 ((30 : Int32) + v6).toNatClampNeg) then (fun v1 v2 v4 v5 v6 σ => f_M_byTurns_L78 n v1 v2 v4 v5 v6 σ) v1 v2 v4 v5 (v6 + (1 : Int32)) σ else if gix v6 10 then glt (σ.1 67 v6.toNatClampNeg) fun x17 => if gix v6 10 then gup (gpi σ 67 v6.toNatClampNeg v1) fun s19 => (f_M_playsFrom 6 v1 (1 : Int32) v2 ((1 : Int32) <<< (v6 &&& 31)) s19).bind fun q20 => if gix ((20 : Int32) + v6) 43 then if (q20.1 - (q20.2.1 60 ((20 : Int32) + v6).toNatClampNeg)) = v4 then f_M_byTurns_j155 (fun v1 v2 v4 v5 v6 σ => f_M_byTurns_L78 n v1 v2 v4 v5 v6 σ) v1 v2 v4 v6 x17 v6 q20.2 else f_M_byTurns_j155 (fun v1 v2 v4 v5 v6 σ => f_M_byTurns_L78 n v1 v2 v4 v5 v6 σ) v1 v2 v4 v6 x17 (-1 : Int32) q20.2 else none else none else none else none
theorem s_M_byTurns_L78 (d : Nat) (hd : 60 ≤ d) : ∀ (n : Nat) (v1 : Int32) (v2 : Int32) (v4 : Int32) (v5 : Int32) (v6 : Int32) (σ : gS), S wI m_M_byTurns d 78 [some (.ref 59), some (.int v1), some (.int v2), none, some (.int v4), some (.int v5), some (.int v6), none] [] σ (f_M_byTurns_L78 n v1 v2 v4 v5 v6 σ) := by
  intro n
  induction n with
  | zero =>
    intros
    unfold f_M_byTurns_L78
    exact S.no
  | succ n ih =>
    intro v1 v2 v4 v5 v6 σ
    unfold f_M_byTurns_L78
    refine S.of1 (pc2 := 80) (fun Q => g_iload d_M_byTurns_78 rfl) ?_
    refine S.of1 (pc2 := 81) (fun Q => g_aload_n d_M_byTurns_80 rfl) ?_
    refine S.of1 (pc2 := 84) (fun Q => g_geti fl_RX11_81 gc_59_6 d_M_byTurns_81) ?_
    refine S.br (c := (σ.1 59 6) ≤ v6) (t := 172) (e := 87) (fun Q kt kf => g_icmp_ge d_M_byTurns_84 rfl kt kf) (fun h12 => ?_) (fun h12 => ?_)
    · refine S.of1 (pc2 := 174) (fun Q => g_iload d_M_byTurns_172 rfl) ?_
      exact S.ret (fun Q hq => g_iret rfl d_M_byTurns_174 hq)
    · refine S.of1 (pc2 := 89) (fun Q => g_iload d_M_byTurns_87 rfl) ?_
      refine S.br (c := 0 ≤ v5) (t := 172) (e := 92) (fun Q kt kf => g_if_ge d_M_byTurns_89 rfl kt kf) (fun h13 => ?_) (fun h13 => ?_)
      · refine S.of1 (pc2 := 174) (fun Q => g_iload d_M_byTurns_172 rfl) ?_
        exact S.ret (fun Q hq => g_iret rfl d_M_byTurns_174 hq)
      · refine S.of1 (pc2 := 93) (fun Q => g_aload_n d_M_byTurns_92 rfl) ?_
        refine S.of1 (pc2 := 96) (fun Q => g_getr fl_RX11_9 gc_59_0 d_M_byTurns_93) ?_
        refine S.of1 (pc2 := 98) (fun Q => g_bipush (v := (30 : Int32)) d_M_byTurns_96 (by decide)) ?_
        refine S.of1 (pc2 := 100) (fun Q => g_iload d_M_byTurns_98 rfl) ?_
        refine S.of1 (pc2 := 101) (fun Q => g_iadd d_M_byTurns_100) ?_
        refine S.chk (fun h14 => ?_)
        refine S.of1 (pc2 := 102) (fun Q => g_iald ga_60 (gix_in h14) d_M_byTurns_101) ?_
        refine S.br (c := 0 ≤ (σ.1 60 ((30 : Int32) + v6).toNatClampNeg)) (t := 166) (e := 105) (fun Q kt kf => g_if_ge d_M_byTurns_102 rfl kt kf) (fun h15 => ?_) (fun h15 => ?_)
        · refine S.of1 (pc2 := 169) (L2 := [some (.ref 59), some (.int v1), some (.int v2), none, some (.int v4), some (.int v5), some (.int (v6 + (1 : Int32))), none]) (fun Q => g_iinc d_M_byTurns_166 rfl (congrArg (fun z => v6 + z) (by decide)) (Nat.le_of_ble_eq_true rfl) rfl) ?_
          refine S.of1 (pc2 := 78) (fun Q => g_goto d_M_byTurns_169 rfl) ?_
          exact S.wk (L2 := [some (.ref 59), some (.int v1), some (.int v2), none, some (.int v4), some (.int v5), some (.int (v6 + (1 : Int32))), none]) (And.intro rfl (And.intro rfl (And.intro rfl (And.intro rfl (And.intro rfl (And.intro rfl trivial)))))) (ih v1 v2 v4 v5 (v6 + (1 : Int32)) σ)
        · refine S.of1 (pc2 := 106) (fun Q => g_aload_n d_M_byTurns_105 rfl) ?_
          refine S.of1 (pc2 := 109) (fun Q => g_getr fl_RX11_31 gc_59_17 d_M_byTurns_106) ?_
          refine S.of1 (pc2 := 111) (fun Q => g_iload d_M_byTurns_109 rfl) ?_
          refine S.chk (fun h16 => ?_)
          refine S.of1 (pc2 := 112) (fun Q => g_iald ga_67 (gix_in h16) d_M_byTurns_111) ?_
          refine S.of1 (pc2 := 114) (L2 := [some (.ref 59), some (.int v1), some (.int v2), none, some (.int v4), some (.int v5), some (.int v6), some (.int (σ.1 67 v6.toNatClampNeg))]) (fun Q => g_istore d_M_byTurns_112 (Nat.le_of_ble_eq_true rfl) rfl) ?_
          refine S.glt (x := (σ.1 67 v6.toNatClampNeg)) (Lf := fun y => [some (.ref 59), some (.int v1), some (.int v2), none, some (.int v4), some (.int v5), some (.int v6), some (.int y)]) (fun x17 => ?_)
          refine S.of1 (pc2 := 115) (fun Q => g_aload_n d_M_byTurns_114 rfl) ?_
          refine S.of1 (pc2 := 118) (fun Q => g_getr fl_RX11_31 gc_59_17 d_M_byTurns_115) ?_
          refine S.of1 (pc2 := 120) (fun Q => g_iload d_M_byTurns_118 rfl) ?_
          refine S.of1 (pc2 := 121) (fun Q => g_iload_n d_M_byTurns_120 rfl) ?_
          refine S.chk (fun h18 => ?_)
          refine S.of1 (pc2 := 122) (fun Q => g_iast ga_67 (gix_in h18) d_M_byTurns_121) ?_
          refine S.gup (fun s19 => ?_)
          refine S.of1 (pc2 := 123) (fun Q => g_aload_n d_M_byTurns_122 rfl) ?_
          refine S.of1 (pc2 := 124) (fun Q => g_iload_n d_M_byTurns_123 rfl) ?_
          refine S.of1 (pc2 := 125) (fun Q => g_iconst (v := (1 : Int32)) d_M_byTurns_124 (by decide)) ?_
          refine S.of1 (pc2 := 126) (fun Q => g_iload_n d_M_byTurns_125 rfl) ?_
          refine S.of1 (pc2 := 127) (fun Q => g_iconst (v := (1 : Int32)) d_M_byTurns_126 (by decide)) ?_
          refine S.of1 (pc2 := 129) (fun Q => g_iload d_M_byTurns_127 rfl) ?_
          refine S.of1 (pc2 := 130) (fun Q => g_ishl d_M_byTurns_129) ?_
          refine S.call_wI (pc3 := 133) rfl (c_M_playsFrom 6 (d - 1) (by omega) v1 (1 : Int32) v2 ((1 : Int32) <<< (v6 &&& 31)) s19) (fun Q => g_callV (M2 := m_M_playsFrom) (vs := [.int v1, .int (1 : Int32), .int v2, .int ((1 : Int32) <<< (v6 &&& 31))]) (st := []) lv_RX11_270 gk_59 rfl rfl (Nat.le_of_ble_eq_true rfl) (by omega) (Nat.le_of_ble_eq_true rfl) rfl d_M_byTurns_130) (fun q20 => ?_)
          refine S.of1 (pc2 := 134) (fun Q => g_aload_n d_M_byTurns_133 rfl) ?_
          refine S.of1 (pc2 := 137) (fun Q => g_getr fl_RX11_9 gc_59_0 d_M_byTurns_134) ?_
          refine S.of1 (pc2 := 139) (fun Q => g_bipush (v := (20 : Int32)) d_M_byTurns_137 (by decide)) ?_
          refine S.of1 (pc2 := 141) (fun Q => g_iload d_M_byTurns_139 rfl) ?_
          refine S.of1 (pc2 := 142) (fun Q => g_iadd d_M_byTurns_141) ?_
          refine S.chk (fun h21 => ?_)
          refine S.of1 (pc2 := 143) (fun Q => g_iald ga_60 (gix_in h21) d_M_byTurns_142) ?_
          refine S.of1 (pc2 := 144) (fun Q => g_isub d_M_byTurns_143) ?_
          refine S.of1 (pc2 := 146) (fun Q => g_iload d_M_byTurns_144 rfl) ?_
          refine S.br (c := (q20.1 - (q20.2.1 60 ((20 : Int32) + v6).toNatClampNeg)) = v4) (t := 149) (e := 154) (fun Q kt kf => g_icmp_ne d_M_byTurns_146 rfl kf kt) (fun h22 => ?_) (fun h22 => ?_)
          · refine S.of1 (pc2 := 151) (fun Q => g_iload d_M_byTurns_149 rfl) ?_
            refine S.of1 (pc2 := 155) (fun Q => g_goto d_M_byTurns_151 rfl) ?_
            exact S.wk (L2 := [some (.ref 59), some (.int v1), some (.int v2), none, some (.int v4), none, some (.int v6), some (.int x17)]) (And.intro rfl (And.intro rfl (And.intro rfl (And.intro rfl (And.intro rfl (And.intro rfl trivial)))))) (s_M_byTurns_j155 d hd (fun v1 v2 v4 v5 v6 σ => f_M_byTurns_L78 n v1 v2 v4 v5 v6 σ) (fun v1 v2 v4 v5 v6 τ => ih v1 v2 v4 v5 v6 τ) v1 v2 v4 v6 x17 v6 q20.2)
          · refine S.of1 (pc2 := 155) (fun Q => g_iconst (v := (-1 : Int32)) d_M_byTurns_154 (by decide)) ?_
            exact S.wk (L2 := [some (.ref 59), some (.int v1), some (.int v2), none, some (.int v4), none, some (.int v6), some (.int x17)]) (And.intro rfl (And.intro rfl (And.intro rfl (And.intro rfl (And.intro rfl (And.intro rfl trivial)))))) (s_M_byTurns_j155 d hd (fun v1 v2 v4 v5 v6 σ => f_M_byTurns_L78 n v1 v2 v4 v5 v6 σ) (fun v1 v2 v4 v5 v6 τ => ih v1 v2 v4 v5 v6 τ) v1 v2 v4 v6 x17 (-1 : Int32) q20.2)
def f_M_byTurns_j73 (v1 : Int32) (v2 : Int32) (v4 : Int32) (s0 : Int32) (σ : gS) : Option (Int32 × gS) :=
  f_M_byTurns_L78 gfu v1 v2 v4 s0 (0 : Int32) σ
theorem s_M_byTurns_j73 (d : Nat) (hd : 60 ≤ d) (v1 : Int32) (v2 : Int32) (v4 : Int32) (s0 : Int32) (σ : gS) : S wI m_M_byTurns d 73 [some (.ref 59), some (.int v1), some (.int v2), none, some (.int v4), none, none, none] [.int s0] σ (f_M_byTurns_j73 v1 v2 v4 s0 σ) := by
  unfold f_M_byTurns_j73
  refine S.of1 (pc2 := 75) (L2 := [some (.ref 59), some (.int v1), some (.int v2), none, some (.int v4), some (.int s0), none, none]) (fun Q => g_istore d_M_byTurns_73 (Nat.le_of_ble_eq_true rfl) rfl) ?_
  refine S.of1 (pc2 := 76) (fun Q => g_iconst (v := (0 : Int32)) d_M_byTurns_75 (by decide)) ?_
  refine S.of1 (pc2 := 78) (L2 := [some (.ref 59), some (.int v1), some (.int v2), none, some (.int v4), some (.int s0), some (.int (0 : Int32)), none]) (fun Q => g_istore d_M_byTurns_76 (Nat.le_of_ble_eq_true rfl) rfl) ?_
  exact S.wk (L2 := [some (.ref 59), some (.int v1), some (.int v2), none, some (.int v4), some (.int s0), some (.int (0 : Int32)), none]) (And.intro rfl (And.intro rfl (And.intro rfl (And.intro rfl (And.intro rfl (And.intro rfl trivial)))))) (s_M_byTurns_L78 d hd gfu v1 v2 v4 s0 (0 : Int32) σ)
def f_M_byTurns (v1 : Int32) (v2 : Int32) (v3 : Int32) (σ : gS) : Option (Int32 × gS) :=
  (f_M_isWeather (v1.toInt64)).bind fun q1 => if q1 = 0 then some ((-2000000000 : Int32), σ) else (f_M_within (v2.toInt64) (1 : Int64) (4 : Int64)).bind fun q3 => if q3 = 0 then some ((-2000000000 : Int32), σ) else (f_M_within (v3.toInt64) (0 : Int64) (1 : Int64)).bind fun q5 => if q5 = 0 then some ((-2000000000 : Int32), σ) else (f_M_allSayNow σ).bind fun s7 => (f_M_playsFrom 6 v1 (0 : Int32) v2 (0 : Int32) s7).bind fun q8 => if v3 = 0 then some (q8.1, q8.2) else (f_M_playsFrom 6 v1 (1 : Int32) v2 (0 : Int32) q8.2).bind fun q10 => if q10.1 = q8.1 then f_M_byTurns_j73 v1 v2 q8.1 (10 : Int32) q10.2 else f_M_byTurns_j73 v1 v2 q8.1 (-1 : Int32) q10.2
theorem c_M_byTurns (d : Nat) (hd : 60 ≤ d) (v1 : Int32) (v2 : Int32) (v3 : Int32) (σ : gS) : C wI d m_M_byTurns [.ref 59, .int v1, .int v2, .int v3] σ (f_M_byTurns v1 v2 v3 σ) := by
  unfold f_M_byTurns
  refine C.of (by decide +kernel) (Nat.le_of_ble_eq_true rfl) (L := [some (.ref 59), some (.int v1), some (.int v2), some (.int v3), none, none, none, none]) rfl ?_
  refine S.of1 (pc2 := 1) (fun Q => g_iload_n d_M_byTurns_0 rfl) ?_
  refine S.of1 (pc2 := 2) (fun Q => g_i2l d_M_byTurns_1) ?_
  refine S.call_rI (pc3 := 5) rfl (c_M_isWeather (d - 1) (by omega) (v1.toInt64) σ) (fun Q => g_callS (M2 := m_M_isWeather) (vs := [.long (v1.toInt64)]) (st := []) ls_RX11_119 rfl (Nat.le_of_ble_eq_true rfl) (by omega) (Nat.le_of_ble_eq_true rfl) rfl d_M_byTurns_2) (fun q1 => ?_)
  refine S.br (c := q1 = 0) (t := 30) (e := 8) (fun Q kt kf => g_if_eq d_M_byTurns_5 rfl kt kf) (fun h2 => ?_) (fun h2 => ?_)
  · refine S.of1 (pc2 := 32) (fun Q => g_ldc (v := (-2000000000 : Int32)) d_M_byTurns_30 w_1316) ?_
    exact S.ret (fun Q hq => g_iret rfl d_M_byTurns_32 hq)
  · refine S.of1 (pc2 := 9) (fun Q => g_iload_n d_M_byTurns_8 rfl) ?_
    refine S.of1 (pc2 := 10) (fun Q => g_i2l d_M_byTurns_9) ?_
    refine S.of1 (pc2 := 11) (fun Q => g_lconst (v := (1 : Int64)) d_M_byTurns_10 (by decide)) ?_
    refine S.of1 (pc2 := 14) (fun Q => g_ldc2 (v := (4 : Int64)) d_M_byTurns_11 w_1303) ?_
    refine S.call_rI (pc3 := 17) rfl (c_M_within (d - 1) (by omega) (v2.toInt64) (1 : Int64) (4 : Int64) σ) (fun Q => g_callS (M2 := m_M_within) (vs := [.long (v2.toInt64), .long (1 : Int64), .long (4 : Int64)]) (st := []) ls_RX11_84 rfl (Nat.le_of_ble_eq_true rfl) (by omega) (Nat.le_of_ble_eq_true rfl) rfl d_M_byTurns_14) (fun q3 => ?_)
    refine S.br (c := q3 = 0) (t := 30) (e := 20) (fun Q kt kf => g_if_eq d_M_byTurns_17 rfl kt kf) (fun h4 => ?_) (fun h4 => ?_)
    · refine S.of1 (pc2 := 32) (fun Q => g_ldc (v := (-2000000000 : Int32)) d_M_byTurns_30 w_1316) ?_
      exact S.ret (fun Q hq => g_iret rfl d_M_byTurns_32 hq)
    · refine S.of1 (pc2 := 21) (fun Q => g_iload_n d_M_byTurns_20 rfl) ?_
      refine S.of1 (pc2 := 22) (fun Q => g_i2l d_M_byTurns_21) ?_
      refine S.of1 (pc2 := 23) (fun Q => g_lconst (v := (0 : Int64)) d_M_byTurns_22 (by decide)) ?_
      refine S.of1 (pc2 := 24) (fun Q => g_lconst (v := (1 : Int64)) d_M_byTurns_23 (by decide)) ?_
      refine S.call_rI (pc3 := 27) rfl (c_M_within (d - 1) (by omega) (v3.toInt64) (0 : Int64) (1 : Int64) σ) (fun Q => g_callS (M2 := m_M_within) (vs := [.long (v3.toInt64), .long (0 : Int64), .long (1 : Int64)]) (st := []) ls_RX11_84 rfl (Nat.le_of_ble_eq_true rfl) (by omega) (Nat.le_of_ble_eq_true rfl) rfl d_M_byTurns_24) (fun q5 => ?_)
      refine S.br (c := q5 = 0) (t := 30) (e := 33) (fun Q kt kf => g_if_ne d_M_byTurns_27 rfl kf kt) (fun h6 => ?_) (fun h6 => ?_)
      · refine S.of1 (pc2 := 32) (fun Q => g_ldc (v := (-2000000000 : Int32)) d_M_byTurns_30 w_1316) ?_
        exact S.ret (fun Q hq => g_iret rfl d_M_byTurns_32 hq)
      · refine S.of1 (pc2 := 34) (fun Q => g_aload_n d_M_byTurns_33 rfl) ?_
        refine S.call_wV (pc3 := 37) rfl (c_M_allSayNow (d - 1) (by omega) σ) (fun Q => g_callV (M2 := m_M_allSayNow) (vs := []) (st := []) lv_RX11_208 gk_59 rfl rfl (Nat.le_of_ble_eq_true rfl) (by omega) (Nat.le_of_ble_eq_true rfl) rfl d_M_byTurns_34) (fun s7 => ?_)
        refine S.of1 (pc2 := 38) (fun Q => g_aload_n d_M_byTurns_37 rfl) ?_
        refine S.of1 (pc2 := 39) (fun Q => g_iload_n d_M_byTurns_38 rfl) ?_
        refine S.of1 (pc2 := 40) (fun Q => g_iconst (v := (0 : Int32)) d_M_byTurns_39 (by decide)) ?_
        refine S.of1 (pc2 := 41) (fun Q => g_iload_n d_M_byTurns_40 rfl) ?_
        refine S.of1 (pc2 := 42) (fun Q => g_iconst (v := (0 : Int32)) d_M_byTurns_41 (by decide)) ?_
        refine S.call_wI (pc3 := 45) rfl (c_M_playsFrom 6 (d - 1) (by omega) v1 (0 : Int32) v2 (0 : Int32) s7) (fun Q => g_callV (M2 := m_M_playsFrom) (vs := [.int v1, .int (0 : Int32), .int v2, .int (0 : Int32)]) (st := []) lv_RX11_270 gk_59 rfl rfl (Nat.le_of_ble_eq_true rfl) (by omega) (Nat.le_of_ble_eq_true rfl) rfl d_M_byTurns_42) (fun q8 => ?_)
        refine S.of1 (pc2 := 47) (L2 := [some (.ref 59), some (.int v1), some (.int v2), some (.int v3), some (.int q8.1), none, none, none]) (fun Q => g_istore d_M_byTurns_45 (Nat.le_of_ble_eq_true rfl) rfl) ?_
        refine S.of1 (pc2 := 48) (fun Q => g_iload_n d_M_byTurns_47 rfl) ?_
        refine S.br (c := v3 = 0) (t := 51) (e := 54) (fun Q kt kf => g_if_ne d_M_byTurns_48 rfl kf kt) (fun h9 => ?_) (fun h9 => ?_)
        · refine S.of1 (pc2 := 53) (fun Q => g_iload d_M_byTurns_51 rfl) ?_
          exact S.ret (fun Q hq => g_iret rfl d_M_byTurns_53 hq)
        · refine S.of1 (pc2 := 55) (fun Q => g_aload_n d_M_byTurns_54 rfl) ?_
          refine S.of1 (pc2 := 56) (fun Q => g_iload_n d_M_byTurns_55 rfl) ?_
          refine S.of1 (pc2 := 57) (fun Q => g_iconst (v := (1 : Int32)) d_M_byTurns_56 (by decide)) ?_
          refine S.of1 (pc2 := 58) (fun Q => g_iload_n d_M_byTurns_57 rfl) ?_
          refine S.of1 (pc2 := 59) (fun Q => g_iconst (v := (0 : Int32)) d_M_byTurns_58 (by decide)) ?_
          refine S.call_wI (pc3 := 62) rfl (c_M_playsFrom 6 (d - 1) (by omega) v1 (1 : Int32) v2 (0 : Int32) q8.2) (fun Q => g_callV (M2 := m_M_playsFrom) (vs := [.int v1, .int (1 : Int32), .int v2, .int (0 : Int32)]) (st := []) lv_RX11_270 gk_59 rfl rfl (Nat.le_of_ble_eq_true rfl) (by omega) (Nat.le_of_ble_eq_true rfl) rfl d_M_byTurns_59) (fun q10 => ?_)
          refine S.of1 (pc2 := 64) (fun Q => g_iload d_M_byTurns_62 rfl) ?_
          refine S.br (c := q10.1 = q8.1) (t := 67) (e := 72) (fun Q kt kf => g_icmp_ne d_M_byTurns_64 rfl kf kt) (fun h11 => ?_) (fun h11 => ?_)
          · refine S.of1 (pc2 := 69) (fun Q => g_bipush (v := (10 : Int32)) d_M_byTurns_67 (by decide)) ?_
            refine S.of1 (pc2 := 73) (fun Q => g_goto d_M_byTurns_69 rfl) ?_
            exact S.wk (L2 := [some (.ref 59), some (.int v1), some (.int v2), none, some (.int q8.1), none, none, none]) (And.intro rfl (And.intro rfl (And.intro rfl (And.intro rfl trivial)))) (s_M_byTurns_j73 d hd v1 v2 q8.1 (10 : Int32) q10.2)
          · refine S.of1 (pc2 := 73) (fun Q => g_iconst (v := (-1 : Int32)) d_M_byTurns_72 (by decide)) ?_
            exact S.wk (L2 := [some (.ref 59), some (.int v1), some (.int v2), none, some (.int q8.1), none, none, none]) (And.intro rfl (And.intro rfl (And.intro rfl (And.intro rfl trivial)))) (s_M_byTurns_j73 d hd v1 v2 q8.1 (-1 : Int32) q10.2)
def f_M_drawn_j178 (k57 : Int32 → Int32 → Int32 → Int32 → Int32 → gS → Option (Int32 × gS)) (k69 : Int32 → Int32 → Int32 → Int32 → Int32 → Int32 → gS → Option (Int32 × gS)) (v2 : Int32) (v3 : Int32) (v4 : Int32) (v6 : Int32) (v7 : Int32) (s0 : Int32) (s1 : Int32) (σ : gS) : Option (Int32 × gS) :=
  k69 v2 v3 v4 (s1 + s0) v6 (v7 + (1 : Int32)) σ
theorem s_M_drawn_j178 (d : Nat) (hd : 59 ≤ d) (k57 : Int32 → Int32 → Int32 → Int32 → Int32 → gS → Option (Int32 × gS)) (hk57 : ∀ (v2 : Int32) (v3 : Int32) (v4 : Int32) (v5 : Int32) (v6 : Int32) (τ : gS), S wI m_M_drawn d 57 [some (.ref 59), none, some (.int v2), some (.int v3), some (.int v4), some (.int v5), some (.int v6), none, none] [] τ (k57 v2 v3 v4 v5 v6 τ)) (k69 : Int32 → Int32 → Int32 → Int32 → Int32 → Int32 → gS → Option (Int32 × gS)) (hk69 : ∀ (v2 : Int32) (v3 : Int32) (v4 : Int32) (v5 : Int32) (v6 : Int32) (v7 : Int32) (τ : gS), S wI m_M_drawn d 69 [some (.ref 59), none, some (.int v2), some (.int v3), some (.int v4), some (.int v5), some (.int v6), some (.int v7), none] [] τ (k69 v2 v3 v4 v5 v6 v7 τ)) (v2 : Int32) (v3 : Int32) (v4 : Int32) (v6 : Int32) (v7 : Int32) (s0 : Int32) (s1 : Int32) (σ : gS) : S wI m_M_drawn d 178 [some (.ref 59), none, some (.int v2), some (.int v3), some (.int v4), none, some (.int v6), some (.int v7), none] [.int s0, .int s1] σ (f_M_drawn_j178 k57 k69 v2 v3 v4 v6 v7 s0 s1 σ) := by
  unfold f_M_drawn_j178
  refine S.of1 (pc2 := 179) (fun Q => g_iadd d_M_drawn_178) ?_
  refine S.of1 (pc2 := 181) (L2 := [some (.ref 59), none, some (.int v2), some (.int v3), some (.int v4), some (.int (s1 + s0)), some (.int v6), some (.int v7), none]) (fun Q => g_istore d_M_drawn_179 (Nat.le_of_ble_eq_true rfl) rfl) ?_
  refine S.of1 (pc2 := 184) (L2 := [some (.ref 59), none, some (.int v2), some (.int v3), some (.int v4), some (.int (s1 + s0)), some (.int v6), some (.int (v7 + (1 : Int32))), none]) (fun Q => g_iinc d_M_drawn_181 rfl (congrArg (fun z => v7 + z) (by decide)) (Nat.le_of_ble_eq_true rfl) rfl) ?_
  refine S.of1 (pc2 := 69) (fun Q => g_goto d_M_drawn_184 rfl) ?_
  exact S.wk (L2 := [some (.ref 59), none, some (.int v2), some (.int v3), some (.int v4), some (.int (s1 + s0)), some (.int v6), some (.int (v7 + (1 : Int32))), none]) (And.intro rfl (And.intro rfl (And.intro rfl (And.intro rfl (And.intro rfl (And.intro rfl (And.intro rfl trivial))))))) (hk69 v2 v3 v4 (s1 + s0) v6 (v7 + (1 : Int32)) σ)
def f_M_drawn_j149 (k57 : Int32 → Int32 → Int32 → Int32 → Int32 → gS → Option (Int32 × gS)) (k69 : Int32 → Int32 → Int32 → Int32 → Int32 → Int32 → gS → Option (Int32 × gS)) (v2 : Int32) (v3 : Int32) (v4 : Int32) (v5 : Int32) (v6 : Int32) (v7 : Int32) (s0 : Int32) (σ : gS) : Option (Int32 × gS) :=
  if v3 = (6 : Int32) then if s0 = 0 then f_M_drawn_j178 k57 k69 v2 v3 v4 v6 v7 (1 : Int32) v5 σ else f_M_drawn_j178 k57 k69 v2 v3 v4 v6 v7 (0 : Int32) v5 σ else f_M_drawn_j178 k57 k69 v2 v3 v4 v6 v7 ((s0 >>> (v3 &&& 31)) &&& (1 : Int32)) v5 σ
theorem s_M_drawn_j149 (d : Nat) (hd : 59 ≤ d) (k57 : Int32 → Int32 → Int32 → Int32 → Int32 → gS → Option (Int32 × gS)) (hk57 : ∀ (v2 : Int32) (v3 : Int32) (v4 : Int32) (v5 : Int32) (v6 : Int32) (τ : gS), S wI m_M_drawn d 57 [some (.ref 59), none, some (.int v2), some (.int v3), some (.int v4), some (.int v5), some (.int v6), none, none] [] τ (k57 v2 v3 v4 v5 v6 τ)) (k69 : Int32 → Int32 → Int32 → Int32 → Int32 → Int32 → gS → Option (Int32 × gS)) (hk69 : ∀ (v2 : Int32) (v3 : Int32) (v4 : Int32) (v5 : Int32) (v6 : Int32) (v7 : Int32) (τ : gS), S wI m_M_drawn d 69 [some (.ref 59), none, some (.int v2), some (.int v3), some (.int v4), some (.int v5), some (.int v6), some (.int v7), none] [] τ (k69 v2 v3 v4 v5 v6 v7 τ)) (v2 : Int32) (v3 : Int32) (v4 : Int32) (v5 : Int32) (v6 : Int32) (v7 : Int32) (s0 : Int32) (σ : gS) : S wI m_M_drawn d 149 [some (.ref 59), none, some (.int v2), some (.int v3), some (.int v4), some (.int v5), some (.int v6), some (.int v7), none] [.int s0] σ (f_M_drawn_j149 k57 k69 v2 v3 v4 v5 v6 v7 s0 σ) := by
  unfold f_M_drawn_j149
  refine S.of1 (pc2 := 151) (L2 := [some (.ref 59), none, some (.int v2), some (.int v3), some (.int v4), some (.int v5), some (.int v6), some (.int v7), some (.int s0)]) (fun Q => g_istore d_M_drawn_149 (Nat.le_of_ble_eq_true rfl) rfl) ?_
  refine S.of1 (pc2 := 153) (fun Q => g_iload d_M_drawn_151 rfl) ?_
  refine S.of1 (pc2 := 154) (fun Q => g_iload_n d_M_drawn_153 rfl) ?_
  refine S.of1 (pc2 := 156) (fun Q => g_bipush (v := (6 : Int32)) d_M_drawn_154 (by decide)) ?_
  refine S.br (c := v3 = (6 : Int32)) (t := 159) (e := 172) (fun Q kt kf => g_icmp_ne d_M_drawn_156 rfl kf kt) (fun h14 => ?_) (fun h14 => ?_)
  · refine S.of1 (pc2 := 161) (fun Q => g_iload d_M_drawn_159 rfl) ?_
    refine S.br (c := s0 = 0) (t := 164) (e := 168) (fun Q kt kf => g_if_ne d_M_drawn_161 rfl kf kt) (fun h15 => ?_) (fun h15 => ?_)
    · refine S.of1 (pc2 := 165) (fun Q => g_iconst (v := (1 : Int32)) d_M_drawn_164 (by decide)) ?_
      refine S.of1 (pc2 := 178) (fun Q => g_goto d_M_drawn_165 rfl) ?_
      exact S.wk (L2 := [some (.ref 59), none, some (.int v2), some (.int v3), some (.int v4), none, some (.int v6), some (.int v7), none]) (And.intro rfl (And.intro rfl (And.intro rfl (And.intro rfl (And.intro rfl (And.intro rfl trivial)))))) (s_M_drawn_j178 d hd k57 hk57 k69 hk69 v2 v3 v4 v6 v7 (1 : Int32) v5 σ)
    · refine S.of1 (pc2 := 169) (fun Q => g_iconst (v := (0 : Int32)) d_M_drawn_168 (by decide)) ?_
      refine S.of1 (pc2 := 178) (fun Q => g_goto d_M_drawn_169 rfl) ?_
      exact S.wk (L2 := [some (.ref 59), none, some (.int v2), some (.int v3), some (.int v4), none, some (.int v6), some (.int v7), none]) (And.intro rfl (And.intro rfl (And.intro rfl (And.intro rfl (And.intro rfl (And.intro rfl trivial)))))) (s_M_drawn_j178 d hd k57 hk57 k69 hk69 v2 v3 v4 v6 v7 (0 : Int32) v5 σ)
  · refine S.of1 (pc2 := 174) (fun Q => g_iload d_M_drawn_172 rfl) ?_
    refine S.of1 (pc2 := 175) (fun Q => g_iload_n d_M_drawn_174 rfl) ?_
    refine S.of1 (pc2 := 176) (fun Q => g_ishr d_M_drawn_175) ?_
    refine S.of1 (pc2 := 177) (fun Q => g_iconst (v := (1 : Int32)) d_M_drawn_176 (by decide)) ?_
    refine S.of1 (pc2 := 178) (fun Q => g_iand d_M_drawn_177) ?_
    exact S.wk (L2 := [some (.ref 59), none, some (.int v2), some (.int v3), some (.int v4), none, some (.int v6), some (.int v7), none]) (And.intro rfl (And.intro rfl (And.intro rfl (And.intro rfl (And.intro rfl (And.intro rfl trivial)))))) (s_M_drawn_j178 d hd k57 hk57 k69 hk69 v2 v3 v4 v6 v7 ((s0 >>> (v3 &&& 31)) &&& (1 : Int32)) v5 σ)
def f_M_drawn_L69 (k57 : Int32 → Int32 → Int32 → Int32 → Int32 → gS → Option (Int32 × gS)) : Nat → Int32 → Int32 → Int32 → Int32 → Int32 → Int32 → gS → Option (Int32 × gS)
  | 0, _, _, _, _, _, _, _ => none
  | n + 1, v2, v3, v4, v5, v6, v7, σ =>
  if (grem v2 (100 : Int32)) ≤ v7 then k57 v2 v3 v4 v5 (v6 + (1 : Int32)) σ else glt ((v4 * (1103515245 : Int32)) + (12345 : Int32)) fun x10 => (f_M_dayOf ((σ.1 60 42) + v7)).bind fun q11 => (f_M_allSay (grem (gush x10 (8 : Int32)) (6 : Int32)) q11 σ).bind fun s12 => if (s12.1 59 6) = 0 then f_M_drawn_j149 k57 (fun v2 v3 v4 v5 v6 v7 σ => f_M_drawn_L69 k57 n v2 v3 v4 v5 v6 v7 σ) v2 v3 x10 v5 v6 v7 (0 : Int32) s12 else (f_M_everybody s12).bind fun q16 => if (s12.1 59 6) = 0 then none else (f_M_happenedBy (q16 &&& (((1 : Int32) <<< ((grem (gush x10 (16 : Int32)) (s12.1 59 6)) &&& 31)) ^^^ (-1 : Int32))) s12).bind fun q18 => f_M_drawn_j149 k57 (fun v2 v3 v4 v5 v6 v7 σ => f_M_drawn_L69 k57 n v2 v3 v4 v5 v6 v7 σ) v2 v3 x10 v5 v6 v7 q18 s12
theorem s_M_drawn_L69 (d : Nat) (hd : 59 ≤ d) (k57 : Int32 → Int32 → Int32 → Int32 → Int32 → gS → Option (Int32 × gS)) (hk57 : ∀ (v2 : Int32) (v3 : Int32) (v4 : Int32) (v5 : Int32) (v6 : Int32) (τ : gS), S wI m_M_drawn d 57 [some (.ref 59), none, some (.int v2), some (.int v3), some (.int v4), some (.int v5), some (.int v6), none, none] [] τ (k57 v2 v3 v4 v5 v6 τ)) : ∀ (n : Nat) (v2 : Int32) (v3 : Int32) (v4 : Int32) (v5 : Int32) (v6 : Int32) (v7 : Int32) (σ : gS), S wI m_M_drawn d 69 [some (.ref 59), none, some (.int v2), some (.int v3), some (.int v4), some (.int v5), some (.int v6), some (.int v7), none] [] σ (f_M_drawn_L69 k57 n v2 v3 v4 v5 v6 v7 σ) := by
  intro n
  induction n with
  | zero =>
    intros
    unfold f_M_drawn_L69
    exact S.no
  | succ n ih =>
    intro v2 v3 v4 v5 v6 v7 σ
    unfold f_M_drawn_L69
    refine S.of1 (pc2 := 71) (fun Q => g_iload d_M_drawn_69 rfl) ?_
    refine S.of1 (pc2 := 72) (fun Q => g_iload_n d_M_drawn_71 rfl) ?_
    refine S.of1 (pc2 := 74) (fun Q => g_bipush (v := (100 : Int32)) d_M_drawn_72 (by decide)) ?_
    refine S.of1 (pc2 := 75) (fun Q => g_irem d_M_drawn_74 (by decide)) ?_
    refine S.br (c := (grem v2 (100 : Int32)) ≤ v7) (t := 187) (e := 78) (fun Q kt kf => g_icmp_ge d_M_drawn_75 rfl kt kf) (fun h9 => ?_) (fun h9 => ?_)
    · refine S.of1 (pc2 := 190) (L2 := [some (.ref 59), none, some (.int v2), some (.int v3), some (.int v4), some (.int v5), some (.int (v6 + (1 : Int32))), some (.int v7), none]) (fun Q => g_iinc d_M_drawn_187 rfl (congrArg (fun z => v6 + z) (by decide)) (Nat.le_of_ble_eq_true rfl) rfl) ?_
      refine S.of1 (pc2 := 57) (fun Q => g_goto d_M_drawn_190 rfl) ?_
      exact S.wk (L2 := [some (.ref 59), none, some (.int v2), some (.int v3), some (.int v4), some (.int v5), some (.int (v6 + (1 : Int32))), none, none]) (And.intro rfl (And.intro rfl (And.intro rfl (And.intro rfl (And.intro rfl (And.intro rfl trivial)))))) (hk57 v2 v3 v4 v5 (v6 + (1 : Int32)) σ)
    · refine S.of1 (pc2 := 80) (fun Q => g_iload d_M_drawn_78 rfl) ?_
      refine S.of1 (pc2 := 83) (fun Q => g_ldcw (v := (1103515245 : Int32)) d_M_drawn_80 w_1534) ?_
      refine S.of1 (pc2 := 84) (fun Q => g_imul d_M_drawn_83) ?_
      refine S.of1 (pc2 := 87) (fun Q => g_sipush (v := (12345 : Int32)) d_M_drawn_84 (by decide)) ?_
      refine S.of1 (pc2 := 88) (fun Q => g_iadd d_M_drawn_87) ?_
      refine S.of1 (pc2 := 90) (L2 := [some (.ref 59), none, some (.int v2), some (.int v3), some (.int ((v4 * (1103515245 : Int32)) + (12345 : Int32))), some (.int v5), some (.int v6), some (.int v7), none]) (fun Q => g_istore d_M_drawn_88 (Nat.le_of_ble_eq_true rfl) rfl) ?_
      refine S.glt (x := ((v4 * (1103515245 : Int32)) + (12345 : Int32))) (Lf := fun y => [some (.ref 59), none, some (.int v2), some (.int v3), some (.int y), some (.int v5), some (.int v6), some (.int v7), none]) (fun x10 => ?_)
      refine S.of1 (pc2 := 91) (fun Q => g_aload_n d_M_drawn_90 rfl) ?_
      refine S.of1 (pc2 := 93) (fun Q => g_iload d_M_drawn_91 rfl) ?_
      refine S.of1 (pc2 := 95) (fun Q => g_bipush (v := (8 : Int32)) d_M_drawn_93 (by decide)) ?_
      refine S.of1 (pc2 := 96) (fun Q => g_iushr d_M_drawn_95) ?_
      refine S.of1 (pc2 := 98) (fun Q => g_bipush (v := (6 : Int32)) d_M_drawn_96 (by decide)) ?_
      refine S.of1 (pc2 := 99) (fun Q => g_irem d_M_drawn_98 (by decide)) ?_
      refine S.of1 (pc2 := 100) (fun Q => g_aload_n d_M_drawn_99 rfl) ?_
      refine S.of1 (pc2 := 103) (fun Q => g_getr fl_RX11_9 gc_59_0 d_M_drawn_100) ?_
      refine S.of1 (pc2 := 105) (fun Q => g_bipush (v := (42 : Int32)) d_M_drawn_103 (by decide)) ?_
      refine S.of1 (pc2 := 106) (fun Q => g_iald ga_60 (vp_lit rfl) d_M_drawn_105) ?_
      refine S.of1 (pc2 := 108) (fun Q => g_iload d_M_drawn_106 rfl) ?_
      refine S.of1 (pc2 := 109) (fun Q => g_iadd d_M_drawn_108) ?_
      refine S.call_rI (pc3 := 112) rfl (c_M_dayOf (d - 1) (by omega) ((σ.1 60 42) + v7) σ) (fun Q => g_callS (M2 := m_M_dayOf) (vs := [.int ((σ.1 60 42) + v7)]) (st := [.int (grem (gush x10 (8 : Int32)) (6 : Int32)), .ref 59]) ls_RX11_255 rfl (Nat.le_of_ble_eq_true rfl) (by omega) (Nat.le_of_ble_eq_true rfl) rfl d_M_drawn_109) (fun q11 => ?_)
      refine S.call_wV (pc3 := 115) rfl (c_M_allSay (d - 1) (by omega) (grem (gush x10 (8 : Int32)) (6 : Int32)) q11 σ) (fun Q => g_callV (M2 := m_M_allSay) (vs := [.int (grem (gush x10 (8 : Int32)) (6 : Int32)), .int q11]) (st := []) lv_RX11_195 gk_59 rfl rfl (Nat.le_of_ble_eq_true rfl) (by omega) (Nat.le_of_ble_eq_true rfl) rfl d_M_drawn_112) (fun s12 => ?_)
      refine S.of1 (pc2 := 116) (fun Q => g_aload_n d_M_drawn_115 rfl) ?_
      refine S.of1 (pc2 := 119) (fun Q => g_geti fl_RX11_81 gc_59_6 d_M_drawn_116) ?_
      refine S.br (c := (s12.1 59 6) = 0) (t := 122) (e := 126) (fun Q kt kf => g_if_ne d_M_drawn_119 rfl kf kt) (fun h13 => ?_) (fun h13 => ?_)
      · refine S.of1 (pc2 := 123) (fun Q => g_iconst (v := (0 : Int32)) d_M_drawn_122 (by decide)) ?_
        refine S.of1 (pc2 := 149) (fun Q => g_goto d_M_drawn_123 rfl) ?_
        exact S.wk (L2 := [some (.ref 59), none, some (.int v2), some (.int v3), some (.int x10), some (.int v5), some (.int v6), some (.int v7), none]) (And.intro rfl (And.intro rfl (And.intro rfl (And.intro rfl (And.intro rfl (And.intro rfl (And.intro rfl trivial))))))) (s_M_drawn_j149 d hd k57 hk57 (fun v2 v3 v4 v5 v6 v7 σ => f_M_drawn_L69 k57 n v2 v3 v4 v5 v6 v7 σ) (fun v2 v3 v4 v5 v6 v7 τ => ih v2 v3 v4 v5 v6 v7 τ) v2 v3 x10 v5 v6 v7 (0 : Int32) s12)
      · refine S.of1 (pc2 := 127) (fun Q => g_aload_n d_M_drawn_126 rfl) ?_
        refine S.of1 (pc2 := 128) (fun Q => g_aload_n d_M_drawn_127 rfl) ?_
        refine S.call_rI (pc3 := 131) rfl (c_M_everybody (d - 1) (by omega) s12) (fun Q => g_callV (M2 := m_M_everybody) (vs := []) (st := [.ref 59]) lv_RX11_211 gk_59 rfl rfl (Nat.le_of_ble_eq_true rfl) (by omega) (Nat.le_of_ble_eq_true rfl) rfl d_M_drawn_128) (fun q16 => ?_)
        refine S.of1 (pc2 := 132) (fun Q => g_iconst (v := (1 : Int32)) d_M_drawn_131 (by decide)) ?_
        refine S.of1 (pc2 := 134) (fun Q => g_iload d_M_drawn_132 rfl) ?_
        refine S.of1 (pc2 := 136) (fun Q => g_bipush (v := (16 : Int32)) d_M_drawn_134 (by decide)) ?_
        refine S.of1 (pc2 := 137) (fun Q => g_iushr d_M_drawn_136) ?_
        refine S.of1 (pc2 := 138) (fun Q => g_aload_n d_M_drawn_137 rfl) ?_
        refine S.of1 (pc2 := 141) (fun Q => g_geti fl_RX11_81 gc_59_6 d_M_drawn_138) ?_
        refine S.nz (fun h17 => ?_)
        refine S.of1 (pc2 := 142) (fun Q => g_irem d_M_drawn_141 h17) ?_
        refine S.of1 (pc2 := 143) (fun Q => g_ishl d_M_drawn_142) ?_
        refine S.of1 (pc2 := 144) (fun Q => g_iconst (v := (-1 : Int32)) d_M_drawn_143 (by decide)) ?_
        refine S.of1 (pc2 := 145) (fun Q => g_ixor d_M_drawn_144) ?_
        refine S.of1 (pc2 := 146) (fun Q => g_iand d_M_drawn_145) ?_
        refine S.call_rI (pc3 := 149) rfl (c_M_happenedBy (d - 1) (by omega) (q16 &&& (((1 : Int32) <<< ((grem (gush x10 (16 : Int32)) (s12.1 59 6)) &&& 31)) ^^^ (-1 : Int32))) s12) (fun Q => g_callV (M2 := m_M_happenedBy) (vs := [.int (q16 &&& (((1 : Int32) <<< ((grem (gush x10 (16 : Int32)) (s12.1 59 6)) &&& 31)) ^^^ (-1 : Int32)))]) (st := []) lv_RX11_214 gk_59 rfl rfl (Nat.le_of_ble_eq_true rfl) (by omega) (Nat.le_of_ble_eq_true rfl) rfl d_M_drawn_146) (fun q18 => ?_)
        exact S.wk (L2 := [some (.ref 59), none, some (.int v2), some (.int v3), some (.int x10), some (.int v5), some (.int v6), some (.int v7), none]) (And.intro rfl (And.intro rfl (And.intro rfl (And.intro rfl (And.intro rfl (And.intro rfl (And.intro rfl trivial))))))) (s_M_drawn_j149 d hd k57 hk57 (fun v2 v3 v4 v5 v6 v7 σ => f_M_drawn_L69 k57 n v2 v3 v4 v5 v6 v7 σ) (fun v2 v3 v4 v5 v6 v7 τ => ih v2 v3 v4 v5 v6 v7 τ) v2 v3 x10 v5 v6 v7 q18 s12)
def f_M_drawn_L57 : Nat → Int32 → Int32 → Int32 → Int32 → Int32 → gS → Option (Int32 × gS)
  | 0, _, _, _, _, _, _ => none
  | n + 1, v2, v3, v4, v5, v6, σ =>
  if (v2 / (100 : Int32)) ≤ v6 then some (v5, σ) else f_M_drawn_L69 (fun v2 v3 v4 v5 v6 σ => f_M_drawn_L57 n v2 v3 v4 v5 v6 σ) gfu v2 v3 v4 v5 v6 (0 : Int32) σ
theorem s_M_drawn_L57 (d : Nat) (hd : 59 ≤ d) : ∀ (n : Nat) (v2 : Int32) (v3 : Int32) (v4 : Int32) (v5 : Int32) (v6 : Int32) (σ : gS), S wI m_M_drawn d 57 [some (.ref 59), none, some (.int v2), some (.int v3), some (.int v4), some (.int v5), some (.int v6), none, none] [] σ (f_M_drawn_L57 n v2 v3 v4 v5 v6 σ) := by
  intro n
  induction n with
  | zero =>
    intros
    unfold f_M_drawn_L57
    exact S.no
  | succ n ih =>
    intro v2 v3 v4 v5 v6 σ
    unfold f_M_drawn_L57
    refine S.of1 (pc2 := 59) (fun Q => g_iload d_M_drawn_57 rfl) ?_
    refine S.of1 (pc2 := 60) (fun Q => g_iload_n d_M_drawn_59 rfl) ?_
    refine S.of1 (pc2 := 62) (fun Q => g_bipush (v := (100 : Int32)) d_M_drawn_60 (by decide)) ?_
    refine S.of1 (pc2 := 63) (fun Q => g_idiv d_M_drawn_62 (by decide)) ?_
    refine S.br (c := (v2 / (100 : Int32)) ≤ v6) (t := 193) (e := 66) (fun Q kt kf => g_icmp_ge d_M_drawn_63 rfl kt kf) (fun h8 => ?_) (fun h8 => ?_)
    · refine S.of1 (pc2 := 195) (fun Q => g_iload d_M_drawn_193 rfl) ?_
      exact S.ret (fun Q hq => g_iret rfl d_M_drawn_195 hq)
    · refine S.of1 (pc2 := 67) (fun Q => g_iconst (v := (0 : Int32)) d_M_drawn_66 (by decide)) ?_
      refine S.of1 (pc2 := 69) (L2 := [some (.ref 59), none, some (.int v2), some (.int v3), some (.int v4), some (.int v5), some (.int v6), some (.int (0 : Int32)), none]) (fun Q => g_istore d_M_drawn_67 (Nat.le_of_ble_eq_true rfl) rfl) ?_
      exact S.wk (L2 := [some (.ref 59), none, some (.int v2), some (.int v3), some (.int v4), some (.int v5), some (.int v6), some (.int (0 : Int32)), none]) (And.intro rfl (And.intro rfl (And.intro rfl (And.intro rfl (And.intro rfl (And.intro rfl (And.intro rfl trivial))))))) (s_M_drawn_L69 d hd (fun v2 v3 v4 v5 v6 σ => f_M_drawn_L57 n v2 v3 v4 v5 v6 σ) (fun v2 v3 v4 v5 v6 τ => ih v2 v3 v4 v5 v6 τ) gfu v2 v3 v4 v5 v6 (0 : Int32) σ)
def f_M_drawn (v1 : Int32) (v2 : Int32) (v3 : Int32) (σ : gS) : Option (Int32 × gS) :=
  if v2 < 0 then some ((-1 : Int32), σ) else (f_M_within ((v2 / (100 : Int32)).toInt64) (1 : Int64) (30 : Int64)).bind fun q2 => if q2 = 0 then some ((-1 : Int32), σ) else (f_M_within ((grem v2 (100 : Int32)).toInt64) (1 : Int64) (40 : Int64)).bind fun q4 => if q4 = 0 then some ((-1 : Int32), σ) else (f_M_within (v3.toInt64) (0 : Int64) (6 : Int64)).bind fun q6 => if q6 = 0 then some ((-1 : Int32), σ) else f_M_drawn_L57 gfu v2 v3 v1 (0 : Int32) (0 : Int32) σ
theorem c_M_drawn (d : Nat) (hd : 59 ≤ d) (v1 : Int32) (v2 : Int32) (v3 : Int32) (σ : gS) : C wI d m_M_drawn [.ref 59, .int v1, .int v2, .int v3] σ (f_M_drawn v1 v2 v3 σ) := by
  unfold f_M_drawn
  refine C.of (by decide +kernel) (Nat.le_of_ble_eq_true rfl) (L := [some (.ref 59), some (.int v1), some (.int v2), some (.int v3), none, none, none, none, none]) rfl ?_
  refine S.of1 (pc2 := 1) (fun Q => g_iload_n d_M_drawn_0 rfl) ?_
  refine S.br (c := v2 < 0) (t := 46) (e := 4) (fun Q kt kf => g_if_lt d_M_drawn_1 rfl kt kf) (fun h1 => ?_) (fun h1 => ?_)
  · refine S.of1 (pc2 := 47) (fun Q => g_iconst (v := (-1 : Int32)) d_M_drawn_46 (by decide)) ?_
    exact S.ret (fun Q hq => g_iret rfl d_M_drawn_47 hq)
  · refine S.of1 (pc2 := 5) (fun Q => g_iload_n d_M_drawn_4 rfl) ?_
    refine S.of1 (pc2 := 7) (fun Q => g_bipush (v := (100 : Int32)) d_M_drawn_5 (by decide)) ?_
    refine S.of1 (pc2 := 8) (fun Q => g_idiv d_M_drawn_7 (by decide)) ?_
    refine S.of1 (pc2 := 9) (fun Q => g_i2l d_M_drawn_8) ?_
    refine S.of1 (pc2 := 10) (fun Q => g_lconst (v := (1 : Int64)) d_M_drawn_9 (by decide)) ?_
    refine S.of1 (pc2 := 13) (fun Q => g_ldc2 (v := (30 : Int64)) d_M_drawn_10 w_1533) ?_
    refine S.call_rI (pc3 := 16) rfl (c_M_within (d - 1) (by omega) ((v2 / (100 : Int32)).toInt64) (1 : Int64) (30 : Int64) σ) (fun Q => g_callS (M2 := m_M_within) (vs := [.long ((v2 / (100 : Int32)).toInt64), .long (1 : Int64), .long (30 : Int64)]) (st := []) ls_RX11_84 rfl (Nat.le_of_ble_eq_true rfl) (by omega) (Nat.le_of_ble_eq_true rfl) rfl d_M_drawn_13) (fun q2 => ?_)
    refine S.br (c := q2 = 0) (t := 46) (e := 19) (fun Q kt kf => g_if_eq d_M_drawn_16 rfl kt kf) (fun h3 => ?_) (fun h3 => ?_)
    · refine S.of1 (pc2 := 47) (fun Q => g_iconst (v := (-1 : Int32)) d_M_drawn_46 (by decide)) ?_
      exact S.ret (fun Q hq => g_iret rfl d_M_drawn_47 hq)
    · refine S.of1 (pc2 := 20) (fun Q => g_iload_n d_M_drawn_19 rfl) ?_
      refine S.of1 (pc2 := 22) (fun Q => g_bipush (v := (100 : Int32)) d_M_drawn_20 (by decide)) ?_
      refine S.of1 (pc2 := 23) (fun Q => g_irem d_M_drawn_22 (by decide)) ?_
      refine S.of1 (pc2 := 24) (fun Q => g_i2l d_M_drawn_23) ?_
      refine S.of1 (pc2 := 25) (fun Q => g_lconst (v := (1 : Int64)) d_M_drawn_24 (by decide)) ?_
      refine S.of1 (pc2 := 28) (fun Q => g_ldc2 (v := (40 : Int64)) d_M_drawn_25 w_1424) ?_
      refine S.call_rI (pc3 := 31) rfl (c_M_within (d - 1) (by omega) ((grem v2 (100 : Int32)).toInt64) (1 : Int64) (40 : Int64) σ) (fun Q => g_callS (M2 := m_M_within) (vs := [.long ((grem v2 (100 : Int32)).toInt64), .long (1 : Int64), .long (40 : Int64)]) (st := []) ls_RX11_84 rfl (Nat.le_of_ble_eq_true rfl) (by omega) (Nat.le_of_ble_eq_true rfl) rfl d_M_drawn_28) (fun q4 => ?_)
      refine S.br (c := q4 = 0) (t := 46) (e := 34) (fun Q kt kf => g_if_eq d_M_drawn_31 rfl kt kf) (fun h5 => ?_) (fun h5 => ?_)
      · refine S.of1 (pc2 := 47) (fun Q => g_iconst (v := (-1 : Int32)) d_M_drawn_46 (by decide)) ?_
        exact S.ret (fun Q hq => g_iret rfl d_M_drawn_47 hq)
      · refine S.of1 (pc2 := 35) (fun Q => g_iload_n d_M_drawn_34 rfl) ?_
        refine S.of1 (pc2 := 36) (fun Q => g_i2l d_M_drawn_35) ?_
        refine S.of1 (pc2 := 37) (fun Q => g_lconst (v := (0 : Int64)) d_M_drawn_36 (by decide)) ?_
        refine S.of1 (pc2 := 40) (fun Q => g_ldc2 (v := (6 : Int64)) d_M_drawn_37 w_1304) ?_
        refine S.call_rI (pc3 := 43) rfl (c_M_within (d - 1) (by omega) (v3.toInt64) (0 : Int64) (6 : Int64) σ) (fun Q => g_callS (M2 := m_M_within) (vs := [.long (v3.toInt64), .long (0 : Int64), .long (6 : Int64)]) (st := []) ls_RX11_84 rfl (Nat.le_of_ble_eq_true rfl) (by omega) (Nat.le_of_ble_eq_true rfl) rfl d_M_drawn_40) (fun q6 => ?_)
        refine S.br (c := q6 = 0) (t := 46) (e := 48) (fun Q kt kf => g_if_ne d_M_drawn_43 rfl kf kt) (fun h7 => ?_) (fun h7 => ?_)
        · refine S.of1 (pc2 := 47) (fun Q => g_iconst (v := (-1 : Int32)) d_M_drawn_46 (by decide)) ?_
          exact S.ret (fun Q hq => g_iret rfl d_M_drawn_47 hq)
        · refine S.of1 (pc2 := 49) (fun Q => g_iload_n d_M_drawn_48 rfl) ?_
          refine S.of1 (pc2 := 51) (L2 := [some (.ref 59), some (.int v1), some (.int v2), some (.int v3), some (.int v1), none, none, none, none]) (fun Q => g_istore d_M_drawn_49 (Nat.le_of_ble_eq_true rfl) rfl) ?_
          refine S.of1 (pc2 := 52) (fun Q => g_iconst (v := (0 : Int32)) d_M_drawn_51 (by decide)) ?_
          refine S.of1 (pc2 := 54) (L2 := [some (.ref 59), some (.int v1), some (.int v2), some (.int v3), some (.int v1), some (.int (0 : Int32)), none, none, none]) (fun Q => g_istore d_M_drawn_52 (Nat.le_of_ble_eq_true rfl) rfl) ?_
          refine S.of1 (pc2 := 55) (fun Q => g_iconst (v := (0 : Int32)) d_M_drawn_54 (by decide)) ?_
          refine S.of1 (pc2 := 57) (L2 := [some (.ref 59), some (.int v1), some (.int v2), some (.int v3), some (.int v1), some (.int (0 : Int32)), some (.int (0 : Int32)), none, none]) (fun Q => g_istore d_M_drawn_55 (Nat.le_of_ble_eq_true rfl) rfl) ?_
          exact S.wk (L2 := [some (.ref 59), none, some (.int v2), some (.int v3), some (.int v1), some (.int (0 : Int32)), some (.int (0 : Int32)), none, none]) (And.intro rfl (And.intro rfl (And.intro rfl (And.intro rfl (And.intro rfl (And.intro rfl trivial)))))) (s_M_drawn_L57 d hd gfu v2 v3 v1 (0 : Int32) (0 : Int32) σ)
def f_M_claim_j74 (k33 : Int32 → Int32 → Int32 → gS → Option (Int32 × gS)) (v1 : Int32) (v3 : Int32) (s0 : Int32) (s1 : Int32) (σ : gS) : Option (Int32 × gS) :=
  k33 v1 (s1 ||| s0) (v3 + (1 : Int32)) σ
theorem s_M_claim_j74 (d : Nat) (hd : 60 ≤ d) (k33 : Int32 → Int32 → Int32 → gS → Option (Int32 × gS)) (hk33 : ∀ (v1 : Int32) (v2 : Int32) (v3 : Int32) (τ : gS), S wI m_M_claim d 33 [some (.ref 59), some (.int v1), some (.int v2), some (.int v3)] [] τ (k33 v1 v2 v3 τ)) (v1 : Int32) (v3 : Int32) (s0 : Int32) (s1 : Int32) (σ : gS) : S wI m_M_claim d 74 [some (.ref 59), some (.int v1), none, some (.int v3)] [.int s0, .int s1] σ (f_M_claim_j74 k33 v1 v3 s0 s1 σ) := by
  unfold f_M_claim_j74
  refine S.of1 (pc2 := 75) (fun Q => g_ior d_M_claim_74) ?_
  refine S.of1 (pc2 := 76) (L2 := [some (.ref 59), some (.int v1), some (.int (s1 ||| s0)), some (.int v3)]) (fun Q => g_istore_n d_M_claim_75 (Nat.le_of_ble_eq_true rfl) rfl) ?_
  refine S.of1 (pc2 := 79) (L2 := [some (.ref 59), some (.int v1), some (.int (s1 ||| s0)), some (.int (v3 + (1 : Int32)))]) (fun Q => g_iinc d_M_claim_76 rfl (congrArg (fun z => v3 + z) (by decide)) (Nat.le_of_ble_eq_true rfl) rfl) ?_
  refine S.of1 (pc2 := 33) (fun Q => g_goto d_M_claim_79 rfl) ?_
  exact S.wk (L2 := [some (.ref 59), some (.int v1), some (.int (s1 ||| s0)), some (.int (v3 + (1 : Int32)))]) (And.intro rfl (And.intro rfl (And.intro rfl (And.intro rfl trivial)))) (hk33 v1 (s1 ||| s0) (v3 + (1 : Int32)) σ)
def f_M_claim_j73 (k33 : Int32 → Int32 → Int32 → gS → Option (Int32 × gS)) (v1 : Int32) (v3 : Int32) (s0 : Int32) (σ : gS) : Option (Int32 × gS) :=
  f_M_claim_j74 k33 v1 v3 (0 : Int32) s0 σ
theorem s_M_claim_j73 (d : Nat) (hd : 60 ≤ d) (k33 : Int32 → Int32 → Int32 → gS → Option (Int32 × gS)) (hk33 : ∀ (v1 : Int32) (v2 : Int32) (v3 : Int32) (τ : gS), S wI m_M_claim d 33 [some (.ref 59), some (.int v1), some (.int v2), some (.int v3)] [] τ (k33 v1 v2 v3 τ)) (v1 : Int32) (v3 : Int32) (s0 : Int32) (σ : gS) : S wI m_M_claim d 73 [some (.ref 59), some (.int v1), none, some (.int v3)] [.int s0] σ (f_M_claim_j73 k33 v1 v3 s0 σ) := by
  unfold f_M_claim_j73
  refine S.of1 (pc2 := 74) (fun Q => g_iconst (v := (0 : Int32)) d_M_claim_73 (by decide)) ?_
  exact S.wk (L2 := [some (.ref 59), some (.int v1), none, some (.int v3)]) (And.intro rfl (And.intro rfl (And.intro rfl trivial))) (s_M_claim_j74 d hd k33 hk33 v1 v3 (0 : Int32) s0 σ)
def f_M_claim_L33 : Nat → Int32 → Int32 → Int32 → gS → Option (Int32 × gS)
  | 0, _, _, _, _ => none
  | n + 1, v1, v2, v3, σ =>
  if (σ.1 59 6) ≤ v3 then glt (v2 &&& ((σ.1 59 22) ^^^ (-1 : Int32))) fun x7 => gup (gpi σ 59 21 ((σ.1 59 21) ||| ((1 : Int32) <<< (v1 &&& 31)))) fun s8 => gup (gpi s8 59 22 ((s8.1 59 22) ||| x7)) fun s9 => gup (gpi s9 71 0 ((s9.1 71 0) + (1 : Int32))) fun s10 => (f_M_bitsOf x7).bind fun q11 => gup (gpi s10 71 1 ((s10.1 71 1) + q11)) fun s12 => some (x7, s12) else (f_M_isIn (σ.1 59 21) v3).bind fun q13 => if q13 = 0 then f_M_claim_j73 (fun v1 v2 v3 σ => f_M_claim_L33 n v1 v2 v3 σ) v1 v3 v2 σ else (f_M_agree v1 v3 σ).bind fun q15 => if q15 = 0 then f_M_claim_j73 (fun v1 v2 v3 σ => f_M_claim_L33 n v1 v2 v3 σ) v1 v3 v2 σ else (f_M_agreedOn v1 v3 σ).bind fun q17 => f_M_claim_j74 (fun v1 v2 v3 σ => f_M_claim_L33 n v1 v2 v3 σ) v1 v3 ((1 : Int32) <<< (q17 &&& 31)) v2 σ
theorem s_M_claim_L33 (d : Nat) (hd : 60 ≤ d) : ∀ (n : Nat) (v1 : Int32) (v2 : Int32) (v3 : Int32) (σ : gS), S wI m_M_claim d 33 [some (.ref 59), some (.int v1), some (.int v2), some (.int v3)] [] σ (f_M_claim_L33 n v1 v2 v3 σ) := by
  intro n
  induction n with
  | zero =>
    intros
    unfold f_M_claim_L33
    exact S.no
  | succ n ih =>
    intro v1 v2 v3 σ
    unfold f_M_claim_L33
    refine S.of1 (pc2 := 34) (fun Q => g_iload_n d_M_claim_33 rfl) ?_
    refine S.of1 (pc2 := 35) (fun Q => g_aload_n d_M_claim_34 rfl) ?_
    refine S.of1 (pc2 := 38) (fun Q => g_geti fl_RX11_81 gc_59_6 d_M_claim_35) ?_
    refine S.br (c := (σ.1 59 6) ≤ v3) (t := 82) (e := 41) (fun Q kt kf => g_icmp_ge d_M_claim_38 rfl kt kf) (fun h6 => ?_) (fun h6 => ?_)
    · refine S.of1 (pc2 := 83) (fun Q => g_iload_n d_M_claim_82 rfl) ?_
      refine S.of1 (pc2 := 84) (fun Q => g_aload_n d_M_claim_83 rfl) ?_
      refine S.of1 (pc2 := 87) (fun Q => g_geti fl_RX11_280 gc_59_22 d_M_claim_84) ?_
      refine S.of1 (pc2 := 88) (fun Q => g_iconst (v := (-1 : Int32)) d_M_claim_87 (by decide)) ?_
      refine S.of1 (pc2 := 89) (fun Q => g_ixor d_M_claim_88) ?_
      refine S.of1 (pc2 := 90) (fun Q => g_iand d_M_claim_89) ?_
      refine S.of1 (pc2 := 91) (L2 := [some (.ref 59), some (.int v1), some (.int (v2 &&& ((σ.1 59 22) ^^^ (-1 : Int32)))), some (.int v3)]) (fun Q => g_istore_n d_M_claim_90 (Nat.le_of_ble_eq_true rfl) rfl) ?_
      refine S.glt (x := (v2 &&& ((σ.1 59 22) ^^^ (-1 : Int32)))) (Lf := fun y => [some (.ref 59), some (.int v1), some (.int y), some (.int v3)]) (fun x7 => ?_)
      refine S.of1 (pc2 := 92) (fun Q => g_aload_n d_M_claim_91 rfl) ?_
      refine S.of1 (pc2 := 93) (fun Q => g_dup d_M_claim_92 rfl) ?_
      refine S.of1 (pc2 := 96) (fun Q => g_geti fl_RX11_277 gc_59_21 d_M_claim_93) ?_
      refine S.of1 (pc2 := 97) (fun Q => g_iconst (v := (1 : Int32)) d_M_claim_96 (by decide)) ?_
      refine S.of1 (pc2 := 98) (fun Q => g_iload_n d_M_claim_97 rfl) ?_
      refine S.of1 (pc2 := 99) (fun Q => g_ishl d_M_claim_98) ?_
      refine S.of1 (pc2 := 100) (fun Q => g_ior d_M_claim_99) ?_
      refine S.of1 (pc2 := 103) (fun Q => g_puti fl_RX11_277 gc_59_21 rfl rfl d_M_claim_100) ?_
      refine S.gup (fun s8 => ?_)
      refine S.of1 (pc2 := 104) (fun Q => g_aload_n d_M_claim_103 rfl) ?_
      refine S.of1 (pc2 := 105) (fun Q => g_dup d_M_claim_104 rfl) ?_
      refine S.of1 (pc2 := 108) (fun Q => g_geti fl_RX11_280 gc_59_22 d_M_claim_105) ?_
      refine S.of1 (pc2 := 109) (fun Q => g_iload_n d_M_claim_108 rfl) ?_
      refine S.of1 (pc2 := 110) (fun Q => g_ior d_M_claim_109) ?_
      refine S.of1 (pc2 := 113) (fun Q => g_puti fl_RX11_280 gc_59_22 rfl rfl d_M_claim_110) ?_
      refine S.gup (fun s9 => ?_)
      refine S.of1 (pc2 := 114) (fun Q => g_aload_n d_M_claim_113 rfl) ?_
      refine S.of1 (pc2 := 117) (fun Q => g_getr fl_RX11_43 gc_59_23 d_M_claim_114) ?_
      refine S.of1 (pc2 := 118) (fun Q => g_iconst (v := (0 : Int32)) d_M_claim_117 (by decide)) ?_
      refine S.of1 (pc2 := 119) (fun Q => g_dup2 d_M_claim_118 rfl rfl) ?_
      refine S.of1 (pc2 := 120) (fun Q => g_iald ga_71 (vp_lit rfl) d_M_claim_119) ?_
      refine S.of1 (pc2 := 121) (fun Q => g_iconst (v := (1 : Int32)) d_M_claim_120 (by decide)) ?_
      refine S.of1 (pc2 := 122) (fun Q => g_iadd d_M_claim_121) ?_
      refine S.of1 (pc2 := 123) (fun Q => g_iast ga_71 (vp_lit rfl) d_M_claim_122) ?_
      refine S.gup (fun s10 => ?_)
      refine S.of1 (pc2 := 124) (fun Q => g_aload_n d_M_claim_123 rfl) ?_
      refine S.of1 (pc2 := 127) (fun Q => g_getr fl_RX11_43 gc_59_23 d_M_claim_124) ?_
      refine S.of1 (pc2 := 128) (fun Q => g_iconst (v := (1 : Int32)) d_M_claim_127 (by decide)) ?_
      refine S.of1 (pc2 := 129) (fun Q => g_dup2 d_M_claim_128 rfl rfl) ?_
      refine S.of1 (pc2 := 130) (fun Q => g_iald ga_71 (vp_lit rfl) d_M_claim_129) ?_
      refine S.of1 (pc2 := 131) (fun Q => g_iload_n d_M_claim_130 rfl) ?_
      refine S.call_rI (pc3 := 134) rfl (c_M_bitsOf (d - 1) (by omega) x7 s10) (fun Q => g_callS (M2 := m_M_bitsOf) (vs := [.int x7]) (st := [.int (s10.1 71 1), .int (1 : Int32), .ref 71]) ls_RX11_228 rfl (Nat.le_of_ble_eq_true rfl) (by omega) (Nat.le_of_ble_eq_true rfl) rfl d_M_claim_131) (fun q11 => ?_)
      refine S.of1 (pc2 := 135) (fun Q => g_iadd d_M_claim_134) ?_
      refine S.of1 (pc2 := 136) (fun Q => g_iast ga_71 (vp_lit rfl) d_M_claim_135) ?_
      refine S.gup (fun s12 => ?_)
      refine S.of1 (pc2 := 137) (fun Q => g_iload_n d_M_claim_136 rfl) ?_
      exact S.ret (fun Q hq => g_iret rfl d_M_claim_137 hq)
    · refine S.of1 (pc2 := 42) (fun Q => g_iload_n d_M_claim_41 rfl) ?_
      refine S.of1 (pc2 := 43) (fun Q => g_aload_n d_M_claim_42 rfl) ?_
      refine S.of1 (pc2 := 46) (fun Q => g_geti fl_RX11_277 gc_59_21 d_M_claim_43) ?_
      refine S.of1 (pc2 := 47) (fun Q => g_iload_n d_M_claim_46 rfl) ?_
      refine S.call_rI (pc3 := 50) rfl (c_M_isIn (d - 1) (by omega) (σ.1 59 21) v3 σ) (fun Q => g_callS (M2 := m_M_isIn) (vs := [.int (σ.1 59 21), .int v3]) (st := [.int v2]) ls_RX11_199 rfl (Nat.le_of_ble_eq_true rfl) (by omega) (Nat.le_of_ble_eq_true rfl) rfl d_M_claim_47) (fun q13 => ?_)
      refine S.br (c := q13 = 0) (t := 73) (e := 53) (fun Q kt kf => g_if_eq d_M_claim_50 rfl kt kf) (fun h14 => ?_) (fun h14 => ?_)
      · exact S.wk (L2 := [some (.ref 59), some (.int v1), none, some (.int v3)]) (And.intro rfl (And.intro rfl (And.intro rfl trivial))) (s_M_claim_j73 d hd (fun v1 v2 v3 σ => f_M_claim_L33 n v1 v2 v3 σ) (fun v1 v2 v3 τ => ih v1 v2 v3 τ) v1 v3 v2 σ)
      · refine S.of1 (pc2 := 54) (fun Q => g_aload_n d_M_claim_53 rfl) ?_
        refine S.of1 (pc2 := 55) (fun Q => g_iload_n d_M_claim_54 rfl) ?_
        refine S.of1 (pc2 := 56) (fun Q => g_iload_n d_M_claim_55 rfl) ?_
        refine S.call_rI (pc3 := 59) rfl (c_M_agree (d - 1) (by omega) v1 v3 σ) (fun Q => g_callV (M2 := m_M_agree) (vs := [.int v1, .int v3]) (st := [.int v2]) lv_RX11_202 gk_59 rfl rfl (Nat.le_of_ble_eq_true rfl) (by omega) (Nat.le_of_ble_eq_true rfl) rfl d_M_claim_56) (fun q15 => ?_)
        refine S.br (c := q15 = 0) (t := 73) (e := 62) (fun Q kt kf => g_if_eq d_M_claim_59 rfl kt kf) (fun h16 => ?_) (fun h16 => ?_)
        · exact S.wk (L2 := [some (.ref 59), some (.int v1), none, some (.int v3)]) (And.intro rfl (And.intro rfl (And.intro rfl trivial))) (s_M_claim_j73 d hd (fun v1 v2 v3 σ => f_M_claim_L33 n v1 v2 v3 σ) (fun v1 v2 v3 τ => ih v1 v2 v3 τ) v1 v3 v2 σ)
        · refine S.of1 (pc2 := 63) (fun Q => g_iconst (v := (1 : Int32)) d_M_claim_62 (by decide)) ?_
          refine S.of1 (pc2 := 64) (fun Q => g_aload_n d_M_claim_63 rfl) ?_
          refine S.of1 (pc2 := 65) (fun Q => g_iload_n d_M_claim_64 rfl) ?_
          refine S.of1 (pc2 := 66) (fun Q => g_iload_n d_M_claim_65 rfl) ?_
          refine S.call_rI (pc3 := 69) rfl (c_M_agreedOn (d - 1) (by omega) v1 v3 σ) (fun Q => g_callV (M2 := m_M_agreedOn) (vs := [.int v1, .int v3]) (st := [.int (1 : Int32), .int v2]) lv_RX11_205 gk_59 rfl rfl (Nat.le_of_ble_eq_true rfl) (by omega) (Nat.le_of_ble_eq_true rfl) rfl d_M_claim_66) (fun q17 => ?_)
          refine S.of1 (pc2 := 70) (fun Q => g_ishl d_M_claim_69) ?_
          refine S.of1 (pc2 := 74) (fun Q => g_goto d_M_claim_70 rfl) ?_
          exact S.wk (L2 := [some (.ref 59), some (.int v1), none, some (.int v3)]) (And.intro rfl (And.intro rfl (And.intro rfl trivial))) (s_M_claim_j74 d hd (fun v1 v2 v3 σ => f_M_claim_L33 n v1 v2 v3 σ) (fun v1 v2 v3 τ => ih v1 v2 v3 τ) v1 v3 ((1 : Int32) <<< (q17 &&& 31)) v2 σ)
def f_M_claim (v1 : Int32) (σ : gS) : Option (Int32 × gS) :=
  (f_M_isOne (v1.toInt64) σ).bind fun q1 => if q1 = 0 then some ((-1 : Int32), σ) else (f_M_isIn (σ.1 59 21) v1).bind fun q3 => if q3 = 0 then (f_M_allSayNow σ).bind fun s5 => f_M_claim_L33 gfu v1 (0 : Int32) (0 : Int32) s5 else some ((-5 : Int32), σ)
theorem c_M_claim (d : Nat) (hd : 60 ≤ d) (v1 : Int32) (σ : gS) : C wI d m_M_claim [.ref 59, .int v1] σ (f_M_claim v1 σ) := by
  unfold f_M_claim
  refine C.of (by decide +kernel) (Nat.le_of_ble_eq_true rfl) (L := [some (.ref 59), some (.int v1), none, none]) rfl ?_
  refine S.of1 (pc2 := 1) (fun Q => g_aload_n d_M_claim_0 rfl) ?_
  refine S.of1 (pc2 := 2) (fun Q => g_iload_n d_M_claim_1 rfl) ?_
  refine S.of1 (pc2 := 3) (fun Q => g_i2l d_M_claim_2) ?_
  refine S.call_rI (pc3 := 6) rfl (c_M_isOne (d - 1) (by omega) (v1.toInt64) σ) (fun Q => g_callV (M2 := m_M_isOne) (vs := [.long (v1.toInt64)]) (st := []) lv_RX11_111 gk_59 rfl rfl (Nat.le_of_ble_eq_true rfl) (by omega) (Nat.le_of_ble_eq_true rfl) rfl d_M_claim_3) (fun q1 => ?_)
  refine S.br (c := q1 = 0) (t := 9) (e := 11) (fun Q kt kf => g_if_ne d_M_claim_6 rfl kf kt) (fun h2 => ?_) (fun h2 => ?_)
  · refine S.of1 (pc2 := 10) (fun Q => g_iconst (v := (-1 : Int32)) d_M_claim_9 (by decide)) ?_
    exact S.ret (fun Q hq => g_iret rfl d_M_claim_10 hq)
  · refine S.of1 (pc2 := 12) (fun Q => g_aload_n d_M_claim_11 rfl) ?_
    refine S.of1 (pc2 := 15) (fun Q => g_geti fl_RX11_277 gc_59_21 d_M_claim_12) ?_
    refine S.of1 (pc2 := 16) (fun Q => g_iload_n d_M_claim_15 rfl) ?_
    refine S.call_rI (pc3 := 19) rfl (c_M_isIn (d - 1) (by omega) (σ.1 59 21) v1 σ) (fun Q => g_callS (M2 := m_M_isIn) (vs := [.int (σ.1 59 21), .int v1]) (st := []) ls_RX11_199 rfl (Nat.le_of_ble_eq_true rfl) (by omega) (Nat.le_of_ble_eq_true rfl) rfl d_M_claim_16) (fun q3 => ?_)
    refine S.br (c := q3 = 0) (t := 25) (e := 22) (fun Q kt kf => g_if_eq d_M_claim_19 rfl kt kf) (fun h4 => ?_) (fun h4 => ?_)
    · refine S.of1 (pc2 := 26) (fun Q => g_aload_n d_M_claim_25 rfl) ?_
      refine S.call_wV (pc3 := 29) rfl (c_M_allSayNow (d - 1) (by omega) σ) (fun Q => g_callV (M2 := m_M_allSayNow) (vs := []) (st := []) lv_RX11_208 gk_59 rfl rfl (Nat.le_of_ble_eq_true rfl) (by omega) (Nat.le_of_ble_eq_true rfl) rfl d_M_claim_26) (fun s5 => ?_)
      refine S.of1 (pc2 := 30) (fun Q => g_iconst (v := (0 : Int32)) d_M_claim_29 (by decide)) ?_
      refine S.of1 (pc2 := 31) (L2 := [some (.ref 59), some (.int v1), some (.int (0 : Int32)), none]) (fun Q => g_istore_n d_M_claim_30 (Nat.le_of_ble_eq_true rfl) rfl) ?_
      refine S.of1 (pc2 := 32) (fun Q => g_iconst (v := (0 : Int32)) d_M_claim_31 (by decide)) ?_
      refine S.of1 (pc2 := 33) (L2 := [some (.ref 59), some (.int v1), some (.int (0 : Int32)), some (.int (0 : Int32))]) (fun Q => g_istore_n d_M_claim_32 (Nat.le_of_ble_eq_true rfl) rfl) ?_
      exact S.wk (L2 := [some (.ref 59), some (.int v1), some (.int (0 : Int32)), some (.int (0 : Int32))]) (And.intro rfl (And.intro rfl (And.intro rfl (And.intro rfl trivial)))) (s_M_claim_L33 d hd gfu v1 (0 : Int32) (0 : Int32) s5)
    · refine S.of1 (pc2 := 24) (fun Q => g_bipush (v := (-5 : Int32)) d_M_claim_22 (by decide)) ?_
      exact S.ret (fun Q hq => g_iret rfl d_M_claim_24 hq)
def f_M_ends (σ : gS) : Option (Int32 × gS) :=
  (f_M_dayOf ((σ.1 60 42) + (1 : Int32))).bind fun q1 => gup (gpi σ 60 42 q1) fun s2 => gup (gpi s2 59 21 (0 : Int32)) fun s3 => gup (gpi s3 59 22 (0 : Int32)) fun s4 => gup (gpi s4 71 4 ((s4.1 71 4) + (1 : Int32))) fun s5 => some ((s5.1 60 42), s5)
theorem c_M_ends (d : Nat) (hd : 2 ≤ d) (σ : gS) : C wI d m_M_ends [.ref 59] σ (f_M_ends σ) := by
  unfold f_M_ends
  refine C.of (by decide +kernel) (Nat.le_of_ble_eq_true rfl) (L := [some (.ref 59)]) rfl ?_
  refine S.of1 (pc2 := 1) (fun Q => g_aload_n d_M_ends_0 rfl) ?_
  refine S.of1 (pc2 := 4) (fun Q => g_getr fl_RX11_9 gc_59_0 d_M_ends_1) ?_
  refine S.of1 (pc2 := 6) (fun Q => g_bipush (v := (42 : Int32)) d_M_ends_4 (by decide)) ?_
  refine S.of1 (pc2 := 7) (fun Q => g_aload_n d_M_ends_6 rfl) ?_
  refine S.of1 (pc2 := 10) (fun Q => g_getr fl_RX11_9 gc_59_0 d_M_ends_7) ?_
  refine S.of1 (pc2 := 12) (fun Q => g_bipush (v := (42 : Int32)) d_M_ends_10 (by decide)) ?_
  refine S.of1 (pc2 := 13) (fun Q => g_iald ga_60 (vp_lit rfl) d_M_ends_12) ?_
  refine S.of1 (pc2 := 14) (fun Q => g_iconst (v := (1 : Int32)) d_M_ends_13 (by decide)) ?_
  refine S.of1 (pc2 := 15) (fun Q => g_iadd d_M_ends_14) ?_
  refine S.call_rI (pc3 := 18) rfl (c_M_dayOf (d - 1) (by omega) ((σ.1 60 42) + (1 : Int32)) σ) (fun Q => g_callS (M2 := m_M_dayOf) (vs := [.int ((σ.1 60 42) + (1 : Int32))]) (st := [.int (42 : Int32), .ref 60]) ls_RX11_255 rfl (Nat.le_of_ble_eq_true rfl) (by omega) (Nat.le_of_ble_eq_true rfl) rfl d_M_ends_15) (fun q1 => ?_)
  refine S.of1 (pc2 := 19) (fun Q => g_iast ga_60 (vp_lit rfl) d_M_ends_18) ?_
  refine S.gup (fun s2 => ?_)
  refine S.of1 (pc2 := 20) (fun Q => g_aload_n d_M_ends_19 rfl) ?_
  refine S.of1 (pc2 := 21) (fun Q => g_iconst (v := (0 : Int32)) d_M_ends_20 (by decide)) ?_
  refine S.of1 (pc2 := 24) (fun Q => g_puti fl_RX11_277 gc_59_21 rfl rfl d_M_ends_21) ?_
  refine S.gup (fun s3 => ?_)
  refine S.of1 (pc2 := 25) (fun Q => g_aload_n d_M_ends_24 rfl) ?_
  refine S.of1 (pc2 := 26) (fun Q => g_iconst (v := (0 : Int32)) d_M_ends_25 (by decide)) ?_
  refine S.of1 (pc2 := 29) (fun Q => g_puti fl_RX11_280 gc_59_22 rfl rfl d_M_ends_26) ?_
  refine S.gup (fun s4 => ?_)
  refine S.of1 (pc2 := 30) (fun Q => g_aload_n d_M_ends_29 rfl) ?_
  refine S.of1 (pc2 := 33) (fun Q => g_getr fl_RX11_43 gc_59_23 d_M_ends_30) ?_
  refine S.of1 (pc2 := 34) (fun Q => g_iconst (v := (4 : Int32)) d_M_ends_33 (by decide)) ?_
  refine S.of1 (pc2 := 35) (fun Q => g_dup2 d_M_ends_34 rfl rfl) ?_
  refine S.of1 (pc2 := 36) (fun Q => g_iald ga_71 (vp_lit rfl) d_M_ends_35) ?_
  refine S.of1 (pc2 := 37) (fun Q => g_iconst (v := (1 : Int32)) d_M_ends_36 (by decide)) ?_
  refine S.of1 (pc2 := 38) (fun Q => g_iadd d_M_ends_37) ?_
  refine S.of1 (pc2 := 39) (fun Q => g_iast ga_71 (vp_lit rfl) d_M_ends_38) ?_
  refine S.gup (fun s5 => ?_)
  refine S.of1 (pc2 := 40) (fun Q => g_aload_n d_M_ends_39 rfl) ?_
  refine S.of1 (pc2 := 43) (fun Q => g_getr fl_RX11_9 gc_59_0 d_M_ends_40) ?_
  refine S.of1 (pc2 := 45) (fun Q => g_bipush (v := (42 : Int32)) d_M_ends_43 (by decide)) ?_
  refine S.of1 (pc2 := 46) (fun Q => g_iald ga_60 (vp_lit rfl) d_M_ends_45) ?_
  exact S.ret (fun Q hq => g_iret rfl d_M_ends_46 hq)
def f_M_marry_j132 (k76 : Int32 → Int32 → Int32 → Int32 → gS → Option (Int32 × gS)) (v2 : Int32) (v3 : Int32) (v5 : Int32) (s0 : Int32) (s1 : Int32) (σ : gS) : Option (Int32 × gS) :=
  k76 v2 v3 (s1 + s0) (v5 + (1 : Int32)) σ
theorem s_M_marry_j132 (d : Nat) (hd : 1 ≤ d) (k76 : Int32 → Int32 → Int32 → Int32 → gS → Option (Int32 × gS)) (hk76 : ∀ (v2 : Int32) (v3 : Int32) (v4 : Int32) (v5 : Int32) (τ : gS), S wI m_M_marry d 76 [some (.ref 59), none, some (.int v2), some (.int v3), some (.int v4), some (.int v5)] [] τ (k76 v2 v3 v4 v5 τ)) (v2 : Int32) (v3 : Int32) (v5 : Int32) (s0 : Int32) (s1 : Int32) (σ : gS) : S wI m_M_marry d 132 [some (.ref 59), none, some (.int v2), some (.int v3), none, some (.int v5)] [.int s0, .int s1] σ (f_M_marry_j132 k76 v2 v3 v5 s0 s1 σ) := by
  unfold f_M_marry_j132
  refine S.of1 (pc2 := 133) (fun Q => g_iadd d_M_marry_132) ?_
  refine S.of1 (pc2 := 135) (L2 := [some (.ref 59), none, some (.int v2), some (.int v3), some (.int (s1 + s0)), some (.int v5)]) (fun Q => g_istore d_M_marry_133 (Nat.le_of_ble_eq_true rfl) rfl) ?_
  refine S.of1 (pc2 := 138) (L2 := [some (.ref 59), none, some (.int v2), some (.int v3), some (.int (s1 + s0)), some (.int (v5 + (1 : Int32)))]) (fun Q => g_iinc d_M_marry_135 rfl (congrArg (fun z => v5 + z) (by decide)) (Nat.le_of_ble_eq_true rfl) rfl) ?_
  refine S.of1 (pc2 := 76) (fun Q => g_goto d_M_marry_138 rfl) ?_
  exact S.wk (L2 := [some (.ref 59), none, some (.int v2), some (.int v3), some (.int (s1 + s0)), some (.int (v5 + (1 : Int32)))]) (And.intro rfl (And.intro rfl (And.intro rfl (And.intro rfl (And.intro rfl trivial))))) (hk76 v2 v3 (s1 + s0) (v5 + (1 : Int32)) σ)
def f_M_marry_j113 (k76 : Int32 → Int32 → Int32 → Int32 → gS → Option (Int32 × gS)) (v2 : Int32) (v3 : Int32) (v4 : Int32) (v5 : Int32) (s0 : Int32) (s1 : Int32) (σ : gS) : Option (Int32 × gS) :=
  if gix s1 43 then gup (gpi σ 60 s1.toNatClampNeg s0) fun s12 => if gix v5 43 then if (s12.1 60 v5.toNatClampNeg) = v2 then f_M_marry_j132 k76 v2 v3 v5 (1 : Int32) v4 s12 else f_M_marry_j132 k76 v2 v3 v5 (0 : Int32) v4 s12 else none else none
theorem s_M_marry_j113 (d : Nat) (hd : 1 ≤ d) (k76 : Int32 → Int32 → Int32 → Int32 → gS → Option (Int32 × gS)) (hk76 : ∀ (v2 : Int32) (v3 : Int32) (v4 : Int32) (v5 : Int32) (τ : gS), S wI m_M_marry d 76 [some (.ref 59), none, some (.int v2), some (.int v3), some (.int v4), some (.int v5)] [] τ (k76 v2 v3 v4 v5 τ)) (v2 : Int32) (v3 : Int32) (v4 : Int32) (v5 : Int32) (s0 : Int32) (s1 : Int32) (σ : gS) : S wI m_M_marry d 113 [some (.ref 59), none, some (.int v2), some (.int v3), some (.int v4), some (.int v5)] [.int s0, .int s1, .ref 60] σ (f_M_marry_j113 k76 v2 v3 v4 v5 s0 s1 σ) := by
  unfold f_M_marry_j113
  refine S.chk (fun h11 => ?_)
  refine S.of1 (pc2 := 114) (fun Q => g_iast ga_60 (gix_in h11) d_M_marry_113) ?_
  refine S.gup (fun s12 => ?_)
  refine S.of1 (pc2 := 116) (fun Q => g_iload d_M_marry_114 rfl) ?_
  refine S.of1 (pc2 := 117) (fun Q => g_aload_n d_M_marry_116 rfl) ?_
  refine S.of1 (pc2 := 120) (fun Q => g_getr fl_RX11_9 gc_59_0 d_M_marry_117) ?_
  refine S.of1 (pc2 := 122) (fun Q => g_iload d_M_marry_120 rfl) ?_
  refine S.chk (fun h13 => ?_)
  refine S.of1 (pc2 := 123) (fun Q => g_iald ga_60 (gix_in h13) d_M_marry_122) ?_
  refine S.of1 (pc2 := 124) (fun Q => g_iload_n d_M_marry_123 rfl) ?_
  refine S.br (c := (s12.1 60 v5.toNatClampNeg) = v2) (t := 127) (e := 131) (fun Q kt kf => g_icmp_ne d_M_marry_124 rfl kf kt) (fun h14 => ?_) (fun h14 => ?_)
  · refine S.of1 (pc2 := 128) (fun Q => g_iconst (v := (1 : Int32)) d_M_marry_127 (by decide)) ?_
    refine S.of1 (pc2 := 132) (fun Q => g_goto d_M_marry_128 rfl) ?_
    exact S.wk (L2 := [some (.ref 59), none, some (.int v2), some (.int v3), none, some (.int v5)]) (And.intro rfl (And.intro rfl (And.intro rfl (And.intro rfl trivial)))) (s_M_marry_j132 d hd k76 hk76 v2 v3 v5 (1 : Int32) v4 s12)
  · refine S.of1 (pc2 := 132) (fun Q => g_iconst (v := (0 : Int32)) d_M_marry_131 (by decide)) ?_
    exact S.wk (L2 := [some (.ref 59), none, some (.int v2), some (.int v3), none, some (.int v5)]) (And.intro rfl (And.intro rfl (And.intro rfl (And.intro rfl trivial)))) (s_M_marry_j132 d hd k76 hk76 v2 v3 v5 (0 : Int32) v4 s12)
def f_M_marry_L76 : Nat → Int32 → Int32 → Int32 → Int32 → gS → Option (Int32 × gS)
  | 0, _, _, _, _, _ => none
  | n + 1, v2, v3, v4, v5, σ =>
  if (σ.1 59 6) ≤ v5 then gup (gpi σ 71 2 ((σ.1 71 2) + (1 : Int32))) fun s8 => some (v4, s8) else if gix v5 43 then if (σ.1 60 v5.toNatClampNeg) = v3 then f_M_marry_j113 (fun v2 v3 v4 v5 σ => f_M_marry_L76 n v2 v3 v4 v5 σ) v2 v3 v4 v5 v2 v5 σ else if gix v5 43 then f_M_marry_j113 (fun v2 v3 v4 v5 σ => f_M_marry_L76 n v2 v3 v4 v5 σ) v2 v3 v4 v5 (σ.1 60 v5.toNatClampNeg) v5 σ else none else none
theorem s_M_marry_L76 (d : Nat) (hd : 1 ≤ d) : ∀ (n : Nat) (v2 : Int32) (v3 : Int32) (v4 : Int32) (v5 : Int32) (σ : gS), S wI m_M_marry d 76 [some (.ref 59), none, some (.int v2), some (.int v3), some (.int v4), some (.int v5)] [] σ (f_M_marry_L76 n v2 v3 v4 v5 σ) := by
  intro n
  induction n with
  | zero =>
    intros
    unfold f_M_marry_L76
    exact S.no
  | succ n ih =>
    intro v2 v3 v4 v5 σ
    unfold f_M_marry_L76
    refine S.of1 (pc2 := 78) (fun Q => g_iload d_M_marry_76 rfl) ?_
    refine S.of1 (pc2 := 79) (fun Q => g_aload_n d_M_marry_78 rfl) ?_
    refine S.of1 (pc2 := 82) (fun Q => g_geti fl_RX11_81 gc_59_6 d_M_marry_79) ?_
    refine S.br (c := (σ.1 59 6) ≤ v5) (t := 141) (e := 85) (fun Q kt kf => g_icmp_ge d_M_marry_82 rfl kt kf) (fun h7 => ?_) (fun h7 => ?_)
    · refine S.of1 (pc2 := 142) (fun Q => g_aload_n d_M_marry_141 rfl) ?_
      refine S.of1 (pc2 := 145) (fun Q => g_getr fl_RX11_43 gc_59_23 d_M_marry_142) ?_
      refine S.of1 (pc2 := 146) (fun Q => g_iconst (v := (2 : Int32)) d_M_marry_145 (by decide)) ?_
      refine S.of1 (pc2 := 147) (fun Q => g_dup2 d_M_marry_146 rfl rfl) ?_
      refine S.of1 (pc2 := 148) (fun Q => g_iald ga_71 (vp_lit rfl) d_M_marry_147) ?_
      refine S.of1 (pc2 := 149) (fun Q => g_iconst (v := (1 : Int32)) d_M_marry_148 (by decide)) ?_
      refine S.of1 (pc2 := 150) (fun Q => g_iadd d_M_marry_149) ?_
      refine S.of1 (pc2 := 151) (fun Q => g_iast ga_71 (vp_lit rfl) d_M_marry_150) ?_
      refine S.gup (fun s8 => ?_)
      refine S.of1 (pc2 := 153) (fun Q => g_iload d_M_marry_151 rfl) ?_
      exact S.ret (fun Q hq => g_iret rfl d_M_marry_153 hq)
    · refine S.of1 (pc2 := 86) (fun Q => g_aload_n d_M_marry_85 rfl) ?_
      refine S.of1 (pc2 := 89) (fun Q => g_getr fl_RX11_9 gc_59_0 d_M_marry_86) ?_
      refine S.of1 (pc2 := 91) (fun Q => g_iload d_M_marry_89 rfl) ?_
      refine S.of1 (pc2 := 92) (fun Q => g_aload_n d_M_marry_91 rfl) ?_
      refine S.of1 (pc2 := 95) (fun Q => g_getr fl_RX11_9 gc_59_0 d_M_marry_92) ?_
      refine S.of1 (pc2 := 97) (fun Q => g_iload d_M_marry_95 rfl) ?_
      refine S.chk (fun h9 => ?_)
      refine S.of1 (pc2 := 98) (fun Q => g_iald ga_60 (gix_in h9) d_M_marry_97) ?_
      refine S.of1 (pc2 := 99) (fun Q => g_iload_n d_M_marry_98 rfl) ?_
      refine S.br (c := (σ.1 60 v5.toNatClampNeg) = v3) (t := 102) (e := 106) (fun Q kt kf => g_icmp_ne d_M_marry_99 rfl kf kt) (fun h10 => ?_) (fun h10 => ?_)
      · refine S.of1 (pc2 := 103) (fun Q => g_iload_n d_M_marry_102 rfl) ?_
        refine S.of1 (pc2 := 113) (fun Q => g_goto d_M_marry_103 rfl) ?_
        exact S.wk (L2 := [some (.ref 59), none, some (.int v2), some (.int v3), some (.int v4), some (.int v5)]) (And.intro rfl (And.intro rfl (And.intro rfl (And.intro rfl (And.intro rfl trivial))))) (s_M_marry_j113 d hd (fun v2 v3 v4 v5 σ => f_M_marry_L76 n v2 v3 v4 v5 σ) (fun v2 v3 v4 v5 τ => ih v2 v3 v4 v5 τ) v2 v3 v4 v5 v2 v5 σ)
      · refine S.of1 (pc2 := 107) (fun Q => g_aload_n d_M_marry_106 rfl) ?_
        refine S.of1 (pc2 := 110) (fun Q => g_getr fl_RX11_9 gc_59_0 d_M_marry_107) ?_
        refine S.of1 (pc2 := 112) (fun Q => g_iload d_M_marry_110 rfl) ?_
        refine S.chk (fun h15 => ?_)
        refine S.of1 (pc2 := 113) (fun Q => g_iald ga_60 (gix_in h15) d_M_marry_112) ?_
        exact S.wk (L2 := [some (.ref 59), none, some (.int v2), some (.int v3), some (.int v4), some (.int v5)]) (And.intro rfl (And.intro rfl (And.intro rfl (And.intro rfl (And.intro rfl trivial))))) (s_M_marry_j113 d hd (fun v2 v3 v4 v5 σ => f_M_marry_L76 n v2 v3 v4 v5 σ) (fun v2 v3 v4 v5 τ => ih v2 v3 v4 v5 τ) v2 v3 v4 v5 (σ.1 60 v5.toNatClampNeg) v5 σ)
def f_M_marry_j57 (v1 : Int32) (s0 : Int32) (σ : gS) : Option (Int32 × gS) :=
  glt (((v1 / (10 : Int32)) + (grem v1 (10 : Int32))) - s0) fun x6 => f_M_marry_L76 gfu s0 x6 (0 : Int32) (0 : Int32) σ
theorem s_M_marry_j57 (d : Nat) (hd : 1 ≤ d) (v1 : Int32) (s0 : Int32) (σ : gS) : S wI m_M_marry d 57 [some (.ref 59), some (.int v1), none, none, none, none] [.int s0] σ (f_M_marry_j57 v1 s0 σ) := by
  unfold f_M_marry_j57
  refine S.of1 (pc2 := 58) (L2 := [some (.ref 59), some (.int v1), some (.int s0), none, none, none]) (fun Q => g_istore_n d_M_marry_57 (Nat.le_of_ble_eq_true rfl) rfl) ?_
  refine S.of1 (pc2 := 59) (fun Q => g_iload_n d_M_marry_58 rfl) ?_
  refine S.of1 (pc2 := 61) (fun Q => g_bipush (v := (10 : Int32)) d_M_marry_59 (by decide)) ?_
  refine S.of1 (pc2 := 62) (fun Q => g_idiv d_M_marry_61 (by decide)) ?_
  refine S.of1 (pc2 := 63) (fun Q => g_iload_n d_M_marry_62 rfl) ?_
  refine S.of1 (pc2 := 65) (fun Q => g_bipush (v := (10 : Int32)) d_M_marry_63 (by decide)) ?_
  refine S.of1 (pc2 := 66) (fun Q => g_irem d_M_marry_65 (by decide)) ?_
  refine S.of1 (pc2 := 67) (fun Q => g_iadd d_M_marry_66) ?_
  refine S.of1 (pc2 := 68) (fun Q => g_iload_n d_M_marry_67 rfl) ?_
  refine S.of1 (pc2 := 69) (fun Q => g_isub d_M_marry_68) ?_
  refine S.of1 (pc2 := 70) (L2 := [some (.ref 59), some (.int v1), some (.int s0), some (.int (((v1 / (10 : Int32)) + (grem v1 (10 : Int32))) - s0)), none, none]) (fun Q => g_istore_n d_M_marry_69 (Nat.le_of_ble_eq_true rfl) rfl) ?_
  refine S.glt (x := (((v1 / (10 : Int32)) + (grem v1 (10 : Int32))) - s0)) (Lf := fun y => [some (.ref 59), some (.int v1), some (.int s0), some (.int y), none, none]) (fun x6 => ?_)
  refine S.of1 (pc2 := 71) (fun Q => g_iconst (v := (0 : Int32)) d_M_marry_70 (by decide)) ?_
  refine S.of1 (pc2 := 73) (L2 := [some (.ref 59), some (.int v1), some (.int s0), some (.int x6), some (.int (0 : Int32)), none]) (fun Q => g_istore d_M_marry_71 (Nat.le_of_ble_eq_true rfl) rfl) ?_
  refine S.of1 (pc2 := 74) (fun Q => g_iconst (v := (0 : Int32)) d_M_marry_73 (by decide)) ?_
  refine S.of1 (pc2 := 76) (L2 := [some (.ref 59), some (.int v1), some (.int s0), some (.int x6), some (.int (0 : Int32)), some (.int (0 : Int32))]) (fun Q => g_istore d_M_marry_74 (Nat.le_of_ble_eq_true rfl) rfl) ?_
  exact S.wk (L2 := [some (.ref 59), none, some (.int s0), some (.int x6), some (.int (0 : Int32)), some (.int (0 : Int32))]) (And.intro rfl (And.intro rfl (And.intro rfl (And.intro rfl (And.intro rfl trivial))))) (s_M_marry_L76 d hd gfu s0 x6 (0 : Int32) (0 : Int32) σ)
def f_M_marry (v1 : Int32) (σ : gS) : Option (Int32 × gS) :=
  if v1 < 0 then some ((-1 : Int32), σ) else if (8 : Int32) ≤ (v1 / (10 : Int32)) then some ((-1 : Int32), σ) else if (8 : Int32) ≤ (grem v1 (10 : Int32)) then some ((-1 : Int32), σ) else if (v1 / (10 : Int32)) = (grem v1 (10 : Int32)) then some ((-1 : Int32), σ) else if (grem v1 (10 : Int32)) ≤ (v1 / (10 : Int32)) then f_M_marry_j57 v1 (grem v1 (10 : Int32)) σ else f_M_marry_j57 v1 (v1 / (10 : Int32)) σ
theorem c_M_marry (d : Nat) (hd : 1 ≤ d) (v1 : Int32) (σ : gS) : C wI d m_M_marry [.ref 59, .int v1] σ (f_M_marry v1 σ) := by
  unfold f_M_marry
  refine C.of (by decide +kernel) (Nat.le_of_ble_eq_true rfl) (L := [some (.ref 59), some (.int v1), none, none, none, none]) rfl ?_
  refine S.of1 (pc2 := 1) (fun Q => g_iload_n d_M_marry_0 rfl) ?_
  refine S.br (c := v1 < 0) (t := 33) (e := 4) (fun Q kt kf => g_if_lt d_M_marry_1 rfl kt kf) (fun h1 => ?_) (fun h1 => ?_)
  · refine S.of1 (pc2 := 34) (fun Q => g_iconst (v := (-1 : Int32)) d_M_marry_33 (by decide)) ?_
    exact S.ret (fun Q hq => g_iret rfl d_M_marry_34 hq)
  · refine S.of1 (pc2 := 5) (fun Q => g_iload_n d_M_marry_4 rfl) ?_
    refine S.of1 (pc2 := 7) (fun Q => g_bipush (v := (10 : Int32)) d_M_marry_5 (by decide)) ?_
    refine S.of1 (pc2 := 8) (fun Q => g_idiv d_M_marry_7 (by decide)) ?_
    refine S.of1 (pc2 := 10) (fun Q => g_bipush (v := (8 : Int32)) d_M_marry_8 (by decide)) ?_
    refine S.br (c := (8 : Int32) ≤ (v1 / (10 : Int32))) (t := 33) (e := 13) (fun Q kt kf => g_icmp_ge d_M_marry_10 rfl kt kf) (fun h2 => ?_) (fun h2 => ?_)
    · refine S.of1 (pc2 := 34) (fun Q => g_iconst (v := (-1 : Int32)) d_M_marry_33 (by decide)) ?_
      exact S.ret (fun Q hq => g_iret rfl d_M_marry_34 hq)
    · refine S.of1 (pc2 := 14) (fun Q => g_iload_n d_M_marry_13 rfl) ?_
      refine S.of1 (pc2 := 16) (fun Q => g_bipush (v := (10 : Int32)) d_M_marry_14 (by decide)) ?_
      refine S.of1 (pc2 := 17) (fun Q => g_irem d_M_marry_16 (by decide)) ?_
      refine S.of1 (pc2 := 19) (fun Q => g_bipush (v := (8 : Int32)) d_M_marry_17 (by decide)) ?_
      refine S.br (c := (8 : Int32) ≤ (grem v1 (10 : Int32))) (t := 33) (e := 22) (fun Q kt kf => g_icmp_ge d_M_marry_19 rfl kt kf) (fun h3 => ?_) (fun h3 => ?_)
      · refine S.of1 (pc2 := 34) (fun Q => g_iconst (v := (-1 : Int32)) d_M_marry_33 (by decide)) ?_
        exact S.ret (fun Q hq => g_iret rfl d_M_marry_34 hq)
      · refine S.of1 (pc2 := 23) (fun Q => g_iload_n d_M_marry_22 rfl) ?_
        refine S.of1 (pc2 := 25) (fun Q => g_bipush (v := (10 : Int32)) d_M_marry_23 (by decide)) ?_
        refine S.of1 (pc2 := 26) (fun Q => g_idiv d_M_marry_25 (by decide)) ?_
        refine S.of1 (pc2 := 27) (fun Q => g_iload_n d_M_marry_26 rfl) ?_
        refine S.of1 (pc2 := 29) (fun Q => g_bipush (v := (10 : Int32)) d_M_marry_27 (by decide)) ?_
        refine S.of1 (pc2 := 30) (fun Q => g_irem d_M_marry_29 (by decide)) ?_
        refine S.br (c := (v1 / (10 : Int32)) = (grem v1 (10 : Int32))) (t := 33) (e := 35) (fun Q kt kf => g_icmp_ne d_M_marry_30 rfl kf kt) (fun h4 => ?_) (fun h4 => ?_)
        · refine S.of1 (pc2 := 34) (fun Q => g_iconst (v := (-1 : Int32)) d_M_marry_33 (by decide)) ?_
          exact S.ret (fun Q hq => g_iret rfl d_M_marry_34 hq)
        · refine S.of1 (pc2 := 36) (fun Q => g_iload_n d_M_marry_35 rfl) ?_
          refine S.of1 (pc2 := 38) (fun Q => g_bipush (v := (10 : Int32)) d_M_marry_36 (by decide)) ?_
          refine S.of1 (pc2 := 39) (fun Q => g_idiv d_M_marry_38 (by decide)) ?_
          refine S.of1 (pc2 := 40) (fun Q => g_iload_n d_M_marry_39 rfl) ?_
          refine S.of1 (pc2 := 42) (fun Q => g_bipush (v := (10 : Int32)) d_M_marry_40 (by decide)) ?_
          refine S.of1 (pc2 := 43) (fun Q => g_irem d_M_marry_42 (by decide)) ?_
          refine S.br (c := (grem v1 (10 : Int32)) ≤ (v1 / (10 : Int32))) (t := 53) (e := 46) (fun Q kt kf => g_icmp_ge d_M_marry_43 rfl kt kf) (fun h5 => ?_) (fun h5 => ?_)
          · refine S.of1 (pc2 := 54) (fun Q => g_iload_n d_M_marry_53 rfl) ?_
            refine S.of1 (pc2 := 56) (fun Q => g_bipush (v := (10 : Int32)) d_M_marry_54 (by decide)) ?_
            refine S.of1 (pc2 := 57) (fun Q => g_irem d_M_marry_56 (by decide)) ?_
            exact S.wk (L2 := [some (.ref 59), some (.int v1), none, none, none, none]) (And.intro rfl (And.intro rfl trivial)) (s_M_marry_j57 d hd v1 (grem v1 (10 : Int32)) σ)
          · refine S.of1 (pc2 := 47) (fun Q => g_iload_n d_M_marry_46 rfl) ?_
            refine S.of1 (pc2 := 49) (fun Q => g_bipush (v := (10 : Int32)) d_M_marry_47 (by decide)) ?_
            refine S.of1 (pc2 := 50) (fun Q => g_idiv d_M_marry_49 (by decide)) ?_
            refine S.of1 (pc2 := 57) (fun Q => g_goto d_M_marry_50 rfl) ?_
            exact S.wk (L2 := [some (.ref 59), some (.int v1), none, none, none, none]) (And.intro rfl (And.intro rfl trivial)) (s_M_marry_j57 d hd v1 (v1 / (10 : Int32)) σ)
def f_M_paid_j62 (s0 : Int32) (σ : gS) : Option (Int32 × gS) :=
  gup (gpi σ 71 3 ((σ.1 71 3) + s0)) fun s9 => some (s0, s9)
theorem s_M_paid_j62 (d : Nat) (hd : 3 ≤ d) (s0 : Int32) (σ : gS) : S wI m_M_paid d 62 [some (.ref 59), none, none, none] [.int s0] σ (f_M_paid_j62 s0 σ) := by
  unfold f_M_paid_j62
  refine S.of1 (pc2 := 63) (L2 := [some (.ref 59), none, none, some (.int s0)]) (fun Q => g_istore_n d_M_paid_62 (Nat.le_of_ble_eq_true rfl) rfl) ?_
  refine S.of1 (pc2 := 64) (fun Q => g_aload_n d_M_paid_63 rfl) ?_
  refine S.of1 (pc2 := 67) (fun Q => g_getr fl_RX11_43 gc_59_23 d_M_paid_64) ?_
  refine S.of1 (pc2 := 68) (fun Q => g_iconst (v := (3 : Int32)) d_M_paid_67 (by decide)) ?_
  refine S.of1 (pc2 := 69) (fun Q => g_dup2 d_M_paid_68 rfl rfl) ?_
  refine S.of1 (pc2 := 70) (fun Q => g_iald ga_71 (vp_lit rfl) d_M_paid_69) ?_
  refine S.of1 (pc2 := 71) (fun Q => g_iload_n d_M_paid_70 rfl) ?_
  refine S.of1 (pc2 := 72) (fun Q => g_iadd d_M_paid_71) ?_
  refine S.of1 (pc2 := 73) (fun Q => g_iast ga_71 (vp_lit rfl) d_M_paid_72) ?_
  refine S.gup (fun s9 => ?_)
  refine S.of1 (pc2 := 74) (fun Q => g_iload_n d_M_paid_73 rfl) ?_
  exact S.ret (fun Q hq => g_iret rfl d_M_paid_74 hq)
def f_M_paid_j42 (v1 : Int32) (v2 : Int32) (s0 : Int32) (s1 : Int32) (σ : gS) : Option (Int32 × gS) :=
  if gix s1 43 then gup (gpi σ 60 s1.toNatClampNeg s0) fun s7 => if v2 = (6 : Int32) then f_M_paid_j62 (0 : Int32) s7 else if gix ((20 : Int32) + v1) 43 then f_M_paid_j62 (s7.1 60 ((20 : Int32) + v1).toNatClampNeg) s7 else none else none
theorem s_M_paid_j42 (d : Nat) (hd : 3 ≤ d) (v1 : Int32) (v2 : Int32) (s0 : Int32) (s1 : Int32) (σ : gS) : S wI m_M_paid d 42 [some (.ref 59), some (.int v1), some (.int v2), none] [.int s0, .int s1, .ref 60] σ (f_M_paid_j42 v1 v2 s0 s1 σ) := by
  unfold f_M_paid_j42
  refine S.chk (fun h6 => ?_)
  refine S.of1 (pc2 := 43) (fun Q => g_iast ga_60 (gix_in h6) d_M_paid_42) ?_
  refine S.gup (fun s7 => ?_)
  refine S.of1 (pc2 := 44) (fun Q => g_iload_n d_M_paid_43 rfl) ?_
  refine S.of1 (pc2 := 46) (fun Q => g_bipush (v := (6 : Int32)) d_M_paid_44 (by decide)) ?_
  refine S.br (c := v2 = (6 : Int32)) (t := 49) (e := 53) (fun Q kt kf => g_icmp_ne d_M_paid_46 rfl kf kt) (fun h8 => ?_) (fun h8 => ?_)
  · refine S.of1 (pc2 := 50) (fun Q => g_iconst (v := (0 : Int32)) d_M_paid_49 (by decide)) ?_
    refine S.of1 (pc2 := 62) (fun Q => g_goto d_M_paid_50 rfl) ?_
    exact S.wk (L2 := [some (.ref 59), none, none, none]) (And.intro rfl trivial) (s_M_paid_j62 d hd (0 : Int32) s7)
  · refine S.of1 (pc2 := 54) (fun Q => g_aload_n d_M_paid_53 rfl) ?_
    refine S.of1 (pc2 := 57) (fun Q => g_getr fl_RX11_9 gc_59_0 d_M_paid_54) ?_
    refine S.of1 (pc2 := 59) (fun Q => g_bipush (v := (20 : Int32)) d_M_paid_57 (by decide)) ?_
    refine S.of1 (pc2 := 60) (fun Q => g_iload_n d_M_paid_59 rfl) ?_
    refine S.of1 (pc2 := 61) (fun Q => g_iadd d_M_paid_60) ?_
    refine S.chk (fun h10 => ?_)
    refine S.of1 (pc2 := 62) (fun Q => g_iald ga_60 (gix_in h10) d_M_paid_61) ?_
    exact S.wk (L2 := [some (.ref 59), none, none, none]) (And.intro rfl trivial) (s_M_paid_j62 d hd (s7.1 60 ((20 : Int32) + v1).toNatClampNeg) s7)
def f_M_paid (v1 : Int32) (v2 : Int32) (σ : gS) : Option (Int32 × gS) :=
  (f_M_isOne (v1.toInt64) σ).bind fun q1 => if q1 = 0 then some ((-1 : Int32), σ) else (f_M_within (v2.toInt64) (0 : Int64) (6 : Int64)).bind fun q3 => if q3 = 0 then some ((-1 : Int32), σ) else if v2 = (6 : Int32) then f_M_paid_j42 v1 v2 (-1 : Int32) ((30 : Int32) + v1) σ else f_M_paid_j42 v1 v2 v2 ((30 : Int32) + v1) σ
theorem c_M_paid (d : Nat) (hd : 3 ≤ d) (v1 : Int32) (v2 : Int32) (σ : gS) : C wI d m_M_paid [.ref 59, .int v1, .int v2] σ (f_M_paid v1 v2 σ) := by
  unfold f_M_paid
  refine C.of (by decide +kernel) (Nat.le_of_ble_eq_true rfl) (L := [some (.ref 59), some (.int v1), some (.int v2), none]) rfl ?_
  refine S.of1 (pc2 := 1) (fun Q => g_aload_n d_M_paid_0 rfl) ?_
  refine S.of1 (pc2 := 2) (fun Q => g_iload_n d_M_paid_1 rfl) ?_
  refine S.of1 (pc2 := 3) (fun Q => g_i2l d_M_paid_2) ?_
  refine S.call_rI (pc3 := 6) rfl (c_M_isOne (d - 1) (by omega) (v1.toInt64) σ) (fun Q => g_callV (M2 := m_M_isOne) (vs := [.long (v1.toInt64)]) (st := []) lv_RX11_111 gk_59 rfl rfl (Nat.le_of_ble_eq_true rfl) (by omega) (Nat.le_of_ble_eq_true rfl) rfl d_M_paid_3) (fun q1 => ?_)
  refine S.br (c := q1 = 0) (t := 21) (e := 9) (fun Q kt kf => g_if_eq d_M_paid_6 rfl kt kf) (fun h2 => ?_) (fun h2 => ?_)
  · refine S.of1 (pc2 := 22) (fun Q => g_iconst (v := (-1 : Int32)) d_M_paid_21 (by decide)) ?_
    exact S.ret (fun Q hq => g_iret rfl d_M_paid_22 hq)
  · refine S.of1 (pc2 := 10) (fun Q => g_iload_n d_M_paid_9 rfl) ?_
    refine S.of1 (pc2 := 11) (fun Q => g_i2l d_M_paid_10) ?_
    refine S.of1 (pc2 := 12) (fun Q => g_lconst (v := (0 : Int64)) d_M_paid_11 (by decide)) ?_
    refine S.of1 (pc2 := 15) (fun Q => g_ldc2 (v := (6 : Int64)) d_M_paid_12 w_1304) ?_
    refine S.call_rI (pc3 := 18) rfl (c_M_within (d - 1) (by omega) (v2.toInt64) (0 : Int64) (6 : Int64) σ) (fun Q => g_callS (M2 := m_M_within) (vs := [.long (v2.toInt64), .long (0 : Int64), .long (6 : Int64)]) (st := []) ls_RX11_84 rfl (Nat.le_of_ble_eq_true rfl) (by omega) (Nat.le_of_ble_eq_true rfl) rfl d_M_paid_15) (fun q3 => ?_)
    refine S.br (c := q3 = 0) (t := 21) (e := 23) (fun Q kt kf => g_if_ne d_M_paid_18 rfl kf kt) (fun h4 => ?_) (fun h4 => ?_)
    · refine S.of1 (pc2 := 22) (fun Q => g_iconst (v := (-1 : Int32)) d_M_paid_21 (by decide)) ?_
      exact S.ret (fun Q hq => g_iret rfl d_M_paid_22 hq)
    · refine S.of1 (pc2 := 24) (fun Q => g_aload_n d_M_paid_23 rfl) ?_
      refine S.of1 (pc2 := 27) (fun Q => g_getr fl_RX11_9 gc_59_0 d_M_paid_24) ?_
      refine S.of1 (pc2 := 29) (fun Q => g_bipush (v := (30 : Int32)) d_M_paid_27 (by decide)) ?_
      refine S.of1 (pc2 := 30) (fun Q => g_iload_n d_M_paid_29 rfl) ?_
      refine S.of1 (pc2 := 31) (fun Q => g_iadd d_M_paid_30) ?_
      refine S.of1 (pc2 := 32) (fun Q => g_iload_n d_M_paid_31 rfl) ?_
      refine S.of1 (pc2 := 34) (fun Q => g_bipush (v := (6 : Int32)) d_M_paid_32 (by decide)) ?_
      refine S.br (c := v2 = (6 : Int32)) (t := 37) (e := 41) (fun Q kt kf => g_icmp_ne d_M_paid_34 rfl kf kt) (fun h5 => ?_) (fun h5 => ?_)
      · refine S.of1 (pc2 := 38) (fun Q => g_iconst (v := (-1 : Int32)) d_M_paid_37 (by decide)) ?_
        refine S.of1 (pc2 := 42) (fun Q => g_goto d_M_paid_38 rfl) ?_
        exact S.wk (L2 := [some (.ref 59), some (.int v1), some (.int v2), none]) (And.intro rfl (And.intro rfl (And.intro rfl trivial))) (s_M_paid_j42 d hd v1 v2 (-1 : Int32) ((30 : Int32) + v1) σ)
      · refine S.of1 (pc2 := 42) (fun Q => g_iload_n d_M_paid_41 rfl) ?_
        exact S.wk (L2 := [some (.ref 59), some (.int v1), some (.int v2), none]) (And.intro rfl (And.intro rfl (And.intro rfl trivial))) (s_M_paid_j42 d hd v1 v2 v2 ((30 : Int32) + v1) σ)
def f_M_led (v1 : Int32) (σ : gS) : Option Int32 :=
  (f_M_within (v1.toInt64) (0 : Int64) (4 : Int64)).bind fun q1 => if q1 = 0 then some (-1 : Int32) else if gix v1 5 then some (σ.1 71 v1.toNatClampNeg) else none
theorem c_M_led (d : Nat) (hd : 2 ≤ d) (v1 : Int32) (σ : gS) : C (rI σ) d m_M_led [.ref 59, .int v1] σ (f_M_led v1 σ) := by
  unfold f_M_led
  refine C.of (by decide +kernel) (Nat.le_of_ble_eq_true rfl) (L := [some (.ref 59), some (.int v1)]) rfl ?_
  refine S.of1 (pc2 := 1) (fun Q => g_iload_n d_M_led_0 rfl) ?_
  refine S.of1 (pc2 := 2) (fun Q => g_i2l d_M_led_1) ?_
  refine S.of1 (pc2 := 3) (fun Q => g_lconst (v := (0 : Int64)) d_M_led_2 (by decide)) ?_
  refine S.of1 (pc2 := 6) (fun Q => g_ldc2 (v := (4 : Int64)) d_M_led_3 w_1303) ?_
  refine S.call_rI (pc3 := 9) rfl (c_M_within (d - 1) (by omega) (v1.toInt64) (0 : Int64) (4 : Int64) σ) (fun Q => g_callS (M2 := m_M_within) (vs := [.long (v1.toInt64), .long (0 : Int64), .long (4 : Int64)]) (st := []) ls_RX11_84 rfl (Nat.le_of_ble_eq_true rfl) (by omega) (Nat.le_of_ble_eq_true rfl) rfl d_M_led_6) (fun q1 => ?_)
  refine S.br (c := q1 = 0) (t := 21) (e := 12) (fun Q kt kf => g_if_eq d_M_led_9 rfl kt kf) (fun h2 => ?_) (fun h2 => ?_)
  · refine S.of1 (pc2 := 22) (fun Q => g_iconst (v := (-1 : Int32)) d_M_led_21 (by decide)) ?_
    exact S.ret (fun Q hq => g_iret rfl d_M_led_22 hq)
  · refine S.of1 (pc2 := 13) (fun Q => g_aload_n d_M_led_12 rfl) ?_
    refine S.of1 (pc2 := 16) (fun Q => g_getr fl_RX11_43 gc_59_23 d_M_led_13) ?_
    refine S.of1 (pc2 := 17) (fun Q => g_iload_n d_M_led_16 rfl) ?_
    refine S.chk (fun h3 => ?_)
    refine S.of1 (pc2 := 18) (fun Q => g_iald ga_71 (gix_in h3) d_M_led_17) ?_
    refine S.of1 (pc2 := 22) (fun Q => g_goto d_M_led_18 rfl) ?_
    exact S.ret (fun Q hq => g_iret rfl d_M_led_22 hq)
def f_M_image_L57 : Nat → Int32 → gS → Option (Int32 × gS)
  | 0, _, _ => none
  | n + 1, v1, σ =>
  if (5 : Int32) ≤ v1 then some ((σ.1 71 4), σ) else if gix v1 5 then if gix v1 5 then gup (gpi σ 73 v1.toNatClampNeg (σ.1 71 v1.toNatClampNeg)) fun s9 => (fun v1 σ => f_M_image_L57 n v1 σ) (v1 + (1 : Int32)) s9 else none else none
theorem s_M_image_L57 (d : Nat) (hd : 1 ≤ d) : ∀ (n : Nat) (v1 : Int32) (σ : gS), S wI m_M_image d 57 [some (.ref 59), some (.int v1)] [] σ (f_M_image_L57 n v1 σ) := by
  intro n
  induction n with
  | zero =>
    intros
    unfold f_M_image_L57
    exact S.no
  | succ n ih =>
    intro v1 σ
    unfold f_M_image_L57
    refine S.of1 (pc2 := 58) (fun Q => g_iload_n d_M_image_57 rfl) ?_
    refine S.of1 (pc2 := 59) (fun Q => g_iconst (v := (5 : Int32)) d_M_image_58 (by decide)) ?_
    refine S.br (c := (5 : Int32) ≤ v1) (t := 80) (e := 62) (fun Q kt kf => g_icmp_ge d_M_image_59 rfl kt kf) (fun h6 => ?_) (fun h6 => ?_)
    · refine S.of1 (pc2 := 81) (fun Q => g_aload_n d_M_image_80 rfl) ?_
      refine S.of1 (pc2 := 84) (fun Q => g_getr fl_RX11_43 gc_59_23 d_M_image_81) ?_
      refine S.of1 (pc2 := 85) (fun Q => g_iconst (v := (4 : Int32)) d_M_image_84 (by decide)) ?_
      refine S.of1 (pc2 := 86) (fun Q => g_iald ga_71 (vp_lit rfl) d_M_image_85) ?_
      exact S.ret (fun Q hq => g_iret rfl d_M_image_86 hq)
    · refine S.of1 (pc2 := 63) (fun Q => g_aload_n d_M_image_62 rfl) ?_
      refine S.of1 (pc2 := 66) (fun Q => g_getr fl_RX11_49 gc_59_29 d_M_image_63) ?_
      refine S.of1 (pc2 := 67) (fun Q => g_iload_n d_M_image_66 rfl) ?_
      refine S.of1 (pc2 := 68) (fun Q => g_aload_n d_M_image_67 rfl) ?_
      refine S.of1 (pc2 := 71) (fun Q => g_getr fl_RX11_43 gc_59_23 d_M_image_68) ?_
      refine S.of1 (pc2 := 72) (fun Q => g_iload_n d_M_image_71 rfl) ?_
      refine S.chk (fun h7 => ?_)
      refine S.of1 (pc2 := 73) (fun Q => g_iald ga_71 (gix_in h7) d_M_image_72) ?_
      refine S.chk (fun h8 => ?_)
      refine S.of1 (pc2 := 74) (fun Q => g_iast ga_73 (gix_in h8) d_M_image_73) ?_
      refine S.gup (fun s9 => ?_)
      refine S.of1 (pc2 := 77) (L2 := [some (.ref 59), some (.int (v1 + (1 : Int32)))]) (fun Q => g_iinc d_M_image_74 rfl (congrArg (fun z => v1 + z) (by decide)) (Nat.le_of_ble_eq_true rfl) rfl) ?_
      refine S.of1 (pc2 := 57) (fun Q => g_goto d_M_image_77 rfl) ?_
      exact S.wk (L2 := [some (.ref 59), some (.int (v1 + (1 : Int32)))]) (And.intro rfl (And.intro rfl trivial)) (ih (v1 + (1 : Int32)) s9)
def f_M_image_L31 : Nat → Int32 → gS → Option (Int32 × gS)
  | 0, _, _ => none
  | n + 1, v1, σ =>
  if (42 : Int32) < v1 then f_M_image_L57 gfu (0 : Int32) σ else if gix v1 43 then if gix v1 43 then gup (gpi σ 72 v1.toNatClampNeg (σ.1 60 v1.toNatClampNeg)) fun s12 => (fun v1 σ => f_M_image_L31 n v1 σ) (v1 + (1 : Int32)) s12 else none else none
theorem s_M_image_L31 (d : Nat) (hd : 1 ≤ d) : ∀ (n : Nat) (v1 : Int32) (σ : gS), S wI m_M_image d 31 [some (.ref 59), some (.int v1)] [] σ (f_M_image_L31 n v1 σ) := by
  intro n
  induction n with
  | zero =>
    intros
    unfold f_M_image_L31
    exact S.no
  | succ n ih =>
    intro v1 σ
    unfold f_M_image_L31
    refine S.of1 (pc2 := 32) (fun Q => g_iload_n d_M_image_31 rfl) ?_
    refine S.of1 (pc2 := 34) (fun Q => g_bipush (v := (42 : Int32)) d_M_image_32 (by decide)) ?_
    refine S.br (c := (42 : Int32) < v1) (t := 55) (e := 37) (fun Q kt kf => g_icmp_gt d_M_image_34 rfl kt kf) (fun h5 => ?_) (fun h5 => ?_)
    · refine S.of1 (pc2 := 56) (fun Q => g_iconst (v := (0 : Int32)) d_M_image_55 (by decide)) ?_
      refine S.of1 (pc2 := 57) (L2 := [some (.ref 59), some (.int (0 : Int32))]) (fun Q => g_istore_n d_M_image_56 (Nat.le_of_ble_eq_true rfl) rfl) ?_
      exact S.wk (L2 := [some (.ref 59), some (.int (0 : Int32))]) (And.intro rfl (And.intro rfl trivial)) (s_M_image_L57 d hd gfu (0 : Int32) σ)
    · refine S.of1 (pc2 := 38) (fun Q => g_aload_n d_M_image_37 rfl) ?_
      refine S.of1 (pc2 := 41) (fun Q => g_getr fl_RX11_46 gc_59_28 d_M_image_38) ?_
      refine S.of1 (pc2 := 42) (fun Q => g_iload_n d_M_image_41 rfl) ?_
      refine S.of1 (pc2 := 43) (fun Q => g_aload_n d_M_image_42 rfl) ?_
      refine S.of1 (pc2 := 46) (fun Q => g_getr fl_RX11_9 gc_59_0 d_M_image_43) ?_
      refine S.of1 (pc2 := 47) (fun Q => g_iload_n d_M_image_46 rfl) ?_
      refine S.chk (fun h10 => ?_)
      refine S.of1 (pc2 := 48) (fun Q => g_iald ga_60 (gix_in h10) d_M_image_47) ?_
      refine S.chk (fun h11 => ?_)
      refine S.of1 (pc2 := 49) (fun Q => g_iast ga_72 (gix_in h11) d_M_image_48) ?_
      refine S.gup (fun s12 => ?_)
      refine S.of1 (pc2 := 52) (L2 := [some (.ref 59), some (.int (v1 + (1 : Int32)))]) (fun Q => g_iinc d_M_image_49 rfl (congrArg (fun z => v1 + z) (by decide)) (Nat.le_of_ble_eq_true rfl) rfl) ?_
      refine S.of1 (pc2 := 31) (fun Q => g_goto d_M_image_52 rfl) ?_
      exact S.wk (L2 := [some (.ref 59), some (.int (v1 + (1 : Int32)))]) (And.intro rfl (And.intro rfl trivial)) (ih (v1 + (1 : Int32)) s12)
def f_M_image (σ : gS) : Option (Int32 × gS) :=
  gup (gpi σ 59 24 (1 : Int32)) fun s1 => gup (gpi s1 59 25 (s1.1 59 6)) fun s2 => gup (gpi s2 59 26 (s2.1 59 21)) fun s3 => gup (gpi s3 59 27 (s3.1 59 22)) fun s4 => f_M_image_L31 gfu (0 : Int32) s4
theorem c_M_image (d : Nat) (hd : 1 ≤ d) (σ : gS) : C wI d m_M_image [.ref 59] σ (f_M_image σ) := by
  unfold f_M_image
  refine C.of (by decide +kernel) (Nat.le_of_ble_eq_true rfl) (L := [some (.ref 59), none]) rfl ?_
  refine S.of1 (pc2 := 1) (fun Q => g_aload_n d_M_image_0 rfl) ?_
  refine S.of1 (pc2 := 2) (fun Q => g_iconst (v := (1 : Int32)) d_M_image_1 (by decide)) ?_
  refine S.of1 (pc2 := 5) (fun Q => g_puti fl_RX11_283 gc_59_24 rfl rfl d_M_image_2) ?_
  refine S.gup (fun s1 => ?_)
  refine S.of1 (pc2 := 6) (fun Q => g_aload_n d_M_image_5 rfl) ?_
  refine S.of1 (pc2 := 7) (fun Q => g_aload_n d_M_image_6 rfl) ?_
  refine S.of1 (pc2 := 10) (fun Q => g_geti fl_RX11_81 gc_59_6 d_M_image_7) ?_
  refine S.of1 (pc2 := 13) (fun Q => g_puti fl_RX11_287 gc_59_25 rfl rfl d_M_image_10) ?_
  refine S.gup (fun s2 => ?_)
  refine S.of1 (pc2 := 14) (fun Q => g_aload_n d_M_image_13 rfl) ?_
  refine S.of1 (pc2 := 15) (fun Q => g_aload_n d_M_image_14 rfl) ?_
  refine S.of1 (pc2 := 18) (fun Q => g_geti fl_RX11_277 gc_59_21 d_M_image_15) ?_
  refine S.of1 (pc2 := 21) (fun Q => g_puti fl_RX11_290 gc_59_26 rfl rfl d_M_image_18) ?_
  refine S.gup (fun s3 => ?_)
  refine S.of1 (pc2 := 22) (fun Q => g_aload_n d_M_image_21 rfl) ?_
  refine S.of1 (pc2 := 23) (fun Q => g_aload_n d_M_image_22 rfl) ?_
  refine S.of1 (pc2 := 26) (fun Q => g_geti fl_RX11_280 gc_59_22 d_M_image_23) ?_
  refine S.of1 (pc2 := 29) (fun Q => g_puti fl_RX11_293 gc_59_27 rfl rfl d_M_image_26) ?_
  refine S.gup (fun s4 => ?_)
  refine S.of1 (pc2 := 30) (fun Q => g_iconst (v := (0 : Int32)) d_M_image_29 (by decide)) ?_
  refine S.of1 (pc2 := 31) (L2 := [some (.ref 59), some (.int (0 : Int32))]) (fun Q => g_istore_n d_M_image_30 (Nat.le_of_ble_eq_true rfl) rfl) ?_
  exact S.wk (L2 := [some (.ref 59), some (.int (0 : Int32))]) (And.intro rfl (And.intro rfl trivial)) (s_M_image_L31 d hd gfu (0 : Int32) s4)
def f_M_back_L88 : Nat → Int32 → gS → Option (Int32 × gS)
  | 0, _, _ => none
  | n + 1, v1, σ =>
  if (5 : Int32) ≤ v1 then some ((σ.1 71 4), σ) else if gix v1 5 then if gix v1 5 then gup (gpi σ 71 v1.toNatClampNeg (σ.1 73 v1.toNatClampNeg)) fun s9 => (fun v1 σ => f_M_back_L88 n v1 σ) (v1 + (1 : Int32)) s9 else none else none
theorem s_M_back_L88 (d : Nat) (hd : 1 ≤ d) : ∀ (n : Nat) (v1 : Int32) (σ : gS), S wI m_M_back d 88 [some (.ref 59), some (.int v1)] [] σ (f_M_back_L88 n v1 σ) := by
  intro n
  induction n with
  | zero =>
    intros
    unfold f_M_back_L88
    exact S.no
  | succ n ih =>
    intro v1 σ
    unfold f_M_back_L88
    refine S.of1 (pc2 := 89) (fun Q => g_iload_n d_M_back_88 rfl) ?_
    refine S.of1 (pc2 := 90) (fun Q => g_iconst (v := (5 : Int32)) d_M_back_89 (by decide)) ?_
    refine S.br (c := (5 : Int32) ≤ v1) (t := 111) (e := 93) (fun Q kt kf => g_icmp_ge d_M_back_90 rfl kt kf) (fun h6 => ?_) (fun h6 => ?_)
    · refine S.of1 (pc2 := 112) (fun Q => g_aload_n d_M_back_111 rfl) ?_
      refine S.of1 (pc2 := 115) (fun Q => g_getr fl_RX11_43 gc_59_23 d_M_back_112) ?_
      refine S.of1 (pc2 := 116) (fun Q => g_iconst (v := (4 : Int32)) d_M_back_115 (by decide)) ?_
      refine S.of1 (pc2 := 117) (fun Q => g_iald ga_71 (vp_lit rfl) d_M_back_116) ?_
      exact S.ret (fun Q hq => g_iret rfl d_M_back_117 hq)
    · refine S.of1 (pc2 := 94) (fun Q => g_aload_n d_M_back_93 rfl) ?_
      refine S.of1 (pc2 := 97) (fun Q => g_getr fl_RX11_43 gc_59_23 d_M_back_94) ?_
      refine S.of1 (pc2 := 98) (fun Q => g_iload_n d_M_back_97 rfl) ?_
      refine S.of1 (pc2 := 99) (fun Q => g_aload_n d_M_back_98 rfl) ?_
      refine S.of1 (pc2 := 102) (fun Q => g_getr fl_RX11_49 gc_59_29 d_M_back_99) ?_
      refine S.of1 (pc2 := 103) (fun Q => g_iload_n d_M_back_102 rfl) ?_
      refine S.chk (fun h7 => ?_)
      refine S.of1 (pc2 := 104) (fun Q => g_iald ga_73 (gix_in h7) d_M_back_103) ?_
      refine S.chk (fun h8 => ?_)
      refine S.of1 (pc2 := 105) (fun Q => g_iast ga_71 (gix_in h8) d_M_back_104) ?_
      refine S.gup (fun s9 => ?_)
      refine S.of1 (pc2 := 108) (L2 := [some (.ref 59), some (.int (v1 + (1 : Int32)))]) (fun Q => g_iinc d_M_back_105 rfl (congrArg (fun z => v1 + z) (by decide)) (Nat.le_of_ble_eq_true rfl) rfl) ?_
      refine S.of1 (pc2 := 88) (fun Q => g_goto d_M_back_108 rfl) ?_
      exact S.wk (L2 := [some (.ref 59), some (.int (v1 + (1 : Int32)))]) (And.intro rfl (And.intro rfl trivial)) (ih (v1 + (1 : Int32)) s9)
def f_M_back_L12 : Nat → Int32 → gS → Option (Int32 × gS)
  | 0, _, _ => none
  | n + 1, v1, σ =>
  if (σ.1 59 25) ≤ v1 then gup (gpi σ 60 42 (σ.1 72 42)) fun s3 => gup (gpi s3 59 21 (s3.1 59 26)) fun s4 => gup (gpi s4 59 22 (s4.1 59 27)) fun s5 => f_M_back_L88 gfu (0 : Int32) s5 else if gix v1 43 then if gix v1 43 then gup (gpi σ 60 v1.toNatClampNeg (σ.1 72 v1.toNatClampNeg)) fun s12 => if gix ((30 : Int32) + v1) 43 then if gix ((30 : Int32) + v1) 43 then gup (gpi s12 60 ((30 : Int32) + v1).toNatClampNeg (s12.1 72 ((30 : Int32) + v1).toNatClampNeg)) fun s15 => (fun v1 σ => f_M_back_L12 n v1 σ) (v1 + (1 : Int32)) s15 else none else none else none else none
theorem s_M_back_L12 (d : Nat) (hd : 1 ≤ d) : ∀ (n : Nat) (v1 : Int32) (σ : gS), S wI m_M_back d 12 [some (.ref 59), some (.int v1)] [] σ (f_M_back_L12 n v1 σ) := by
  intro n
  induction n with
  | zero =>
    intros
    unfold f_M_back_L12
    exact S.no
  | succ n ih =>
    intro v1 σ
    unfold f_M_back_L12
    refine S.of1 (pc2 := 13) (fun Q => g_iload_n d_M_back_12 rfl) ?_
    refine S.of1 (pc2 := 14) (fun Q => g_aload_n d_M_back_13 rfl) ?_
    refine S.of1 (pc2 := 17) (fun Q => g_geti fl_RX11_287 gc_59_25 d_M_back_14) ?_
    refine S.br (c := (σ.1 59 25) ≤ v1) (t := 56) (e := 20) (fun Q kt kf => g_icmp_ge d_M_back_17 rfl kt kf) (fun h2 => ?_) (fun h2 => ?_)
    · refine S.of1 (pc2 := 57) (fun Q => g_aload_n d_M_back_56 rfl) ?_
      refine S.of1 (pc2 := 60) (fun Q => g_getr fl_RX11_9 gc_59_0 d_M_back_57) ?_
      refine S.of1 (pc2 := 62) (fun Q => g_bipush (v := (42 : Int32)) d_M_back_60 (by decide)) ?_
      refine S.of1 (pc2 := 63) (fun Q => g_aload_n d_M_back_62 rfl) ?_
      refine S.of1 (pc2 := 66) (fun Q => g_getr fl_RX11_46 gc_59_28 d_M_back_63) ?_
      refine S.of1 (pc2 := 68) (fun Q => g_bipush (v := (42 : Int32)) d_M_back_66 (by decide)) ?_
      refine S.of1 (pc2 := 69) (fun Q => g_iald ga_72 (vp_lit rfl) d_M_back_68) ?_
      refine S.of1 (pc2 := 70) (fun Q => g_iast ga_60 (vp_lit rfl) d_M_back_69) ?_
      refine S.gup (fun s3 => ?_)
      refine S.of1 (pc2 := 71) (fun Q => g_aload_n d_M_back_70 rfl) ?_
      refine S.of1 (pc2 := 72) (fun Q => g_aload_n d_M_back_71 rfl) ?_
      refine S.of1 (pc2 := 75) (fun Q => g_geti fl_RX11_290 gc_59_26 d_M_back_72) ?_
      refine S.of1 (pc2 := 78) (fun Q => g_puti fl_RX11_277 gc_59_21 rfl rfl d_M_back_75) ?_
      refine S.gup (fun s4 => ?_)
      refine S.of1 (pc2 := 79) (fun Q => g_aload_n d_M_back_78 rfl) ?_
      refine S.of1 (pc2 := 80) (fun Q => g_aload_n d_M_back_79 rfl) ?_
      refine S.of1 (pc2 := 83) (fun Q => g_geti fl_RX11_293 gc_59_27 d_M_back_80) ?_
      refine S.of1 (pc2 := 86) (fun Q => g_puti fl_RX11_280 gc_59_22 rfl rfl d_M_back_83) ?_
      refine S.gup (fun s5 => ?_)
      refine S.of1 (pc2 := 87) (fun Q => g_iconst (v := (0 : Int32)) d_M_back_86 (by decide)) ?_
      refine S.of1 (pc2 := 88) (L2 := [some (.ref 59), some (.int (0 : Int32))]) (fun Q => g_istore_n d_M_back_87 (Nat.le_of_ble_eq_true rfl) rfl) ?_
      exact S.wk (L2 := [some (.ref 59), some (.int (0 : Int32))]) (And.intro rfl (And.intro rfl trivial)) (s_M_back_L88 d hd gfu (0 : Int32) s5)
    · refine S.of1 (pc2 := 21) (fun Q => g_aload_n d_M_back_20 rfl) ?_
      refine S.of1 (pc2 := 24) (fun Q => g_getr fl_RX11_9 gc_59_0 d_M_back_21) ?_
      refine S.of1 (pc2 := 25) (fun Q => g_iload_n d_M_back_24 rfl) ?_
      refine S.of1 (pc2 := 26) (fun Q => g_aload_n d_M_back_25 rfl) ?_
      refine S.of1 (pc2 := 29) (fun Q => g_getr fl_RX11_46 gc_59_28 d_M_back_26) ?_
      refine S.of1 (pc2 := 30) (fun Q => g_iload_n d_M_back_29 rfl) ?_
      refine S.chk (fun h10 => ?_)
      refine S.of1 (pc2 := 31) (fun Q => g_iald ga_72 (gix_in h10) d_M_back_30) ?_
      refine S.chk (fun h11 => ?_)
      refine S.of1 (pc2 := 32) (fun Q => g_iast ga_60 (gix_in h11) d_M_back_31) ?_
      refine S.gup (fun s12 => ?_)
      refine S.of1 (pc2 := 33) (fun Q => g_aload_n d_M_back_32 rfl) ?_
      refine S.of1 (pc2 := 36) (fun Q => g_getr fl_RX11_9 gc_59_0 d_M_back_33) ?_
      refine S.of1 (pc2 := 38) (fun Q => g_bipush (v := (30 : Int32)) d_M_back_36 (by decide)) ?_
      refine S.of1 (pc2 := 39) (fun Q => g_iload_n d_M_back_38 rfl) ?_
      refine S.of1 (pc2 := 40) (fun Q => g_iadd d_M_back_39) ?_
      refine S.of1 (pc2 := 41) (fun Q => g_aload_n d_M_back_40 rfl) ?_
      refine S.of1 (pc2 := 44) (fun Q => g_getr fl_RX11_46 gc_59_28 d_M_back_41) ?_
      refine S.of1 (pc2 := 46) (fun Q => g_bipush (v := (30 : Int32)) d_M_back_44 (by decide)) ?_
      refine S.of1 (pc2 := 47) (fun Q => g_iload_n d_M_back_46 rfl) ?_
      refine S.of1 (pc2 := 48) (fun Q => g_iadd d_M_back_47) ?_
      refine S.chk (fun h13 => ?_)
      refine S.of1 (pc2 := 49) (fun Q => g_iald ga_72 (gix_in h13) d_M_back_48) ?_
      refine S.chk (fun h14 => ?_)
      refine S.of1 (pc2 := 50) (fun Q => g_iast ga_60 (gix_in h14) d_M_back_49) ?_
      refine S.gup (fun s15 => ?_)
      refine S.of1 (pc2 := 53) (L2 := [some (.ref 59), some (.int (v1 + (1 : Int32)))]) (fun Q => g_iinc d_M_back_50 rfl (congrArg (fun z => v1 + z) (by decide)) (Nat.le_of_ble_eq_true rfl) rfl) ?_
      refine S.of1 (pc2 := 12) (fun Q => g_goto d_M_back_53 rfl) ?_
      exact S.wk (L2 := [some (.ref 59), some (.int (v1 + (1 : Int32)))]) (And.intro rfl (And.intro rfl trivial)) (ih (v1 + (1 : Int32)) s15)
def f_M_back (σ : gS) : Option (Int32 × gS) :=
  if (σ.1 59 24) = 0 then some ((-5 : Int32), σ) else f_M_back_L12 gfu (0 : Int32) σ
theorem c_M_back (d : Nat) (hd : 1 ≤ d) (σ : gS) : C wI d m_M_back [.ref 59] σ (f_M_back σ) := by
  unfold f_M_back
  refine C.of (by decide +kernel) (Nat.le_of_ble_eq_true rfl) (L := [some (.ref 59), none]) rfl ?_
  refine S.of1 (pc2 := 1) (fun Q => g_aload_n d_M_back_0 rfl) ?_
  refine S.of1 (pc2 := 4) (fun Q => g_geti fl_RX11_283 gc_59_24 d_M_back_1) ?_
  refine S.br (c := (σ.1 59 24) = 0) (t := 7) (e := 10) (fun Q kt kf => g_if_ne d_M_back_4 rfl kf kt) (fun h1 => ?_) (fun h1 => ?_)
  · refine S.of1 (pc2 := 9) (fun Q => g_bipush (v := (-5 : Int32)) d_M_back_7 (by decide)) ?_
    exact S.ret (fun Q hq => g_iret rfl d_M_back_9 hq)
  · refine S.of1 (pc2 := 11) (fun Q => g_iconst (v := (0 : Int32)) d_M_back_10 (by decide)) ?_
    refine S.of1 (pc2 := 12) (L2 := [some (.ref 59), some (.int (0 : Int32))]) (fun Q => g_istore_n d_M_back_11 (Nat.le_of_ble_eq_true rfl) rfl) ?_
    exact S.wk (L2 := [some (.ref 59), some (.int (0 : Int32))]) (And.intro rfl (And.intro rfl trivial)) (s_M_back_L12 d hd gfu (0 : Int32) σ)
def f_M_isBody (v1 : Int32) (σ : gS) : Option Int32 :=
  (f_M_within (v1.toInt64) (0 : Int64) (((σ.1 59 30) - (1 : Int32)).toInt64)).bind fun q1 => if gzb q1 then some q1 else none
theorem c_M_isBody (d : Nat) (hd : 2 ≤ d) (v1 : Int32) (σ : gS) : C (rI σ) d m_M_isBody [.ref 59, .int v1] σ (f_M_isBody v1 σ) := by
  unfold f_M_isBody
  refine C.of (by decide +kernel) (Nat.le_of_ble_eq_true rfl) (L := [some (.ref 59), some (.int v1)]) rfl ?_
  refine S.of1 (pc2 := 1) (fun Q => g_iload_n d_M_isBody_0 rfl) ?_
  refine S.of1 (pc2 := 2) (fun Q => g_i2l d_M_isBody_1) ?_
  refine S.of1 (pc2 := 3) (fun Q => g_lconst (v := (0 : Int64)) d_M_isBody_2 (by decide)) ?_
  refine S.of1 (pc2 := 4) (fun Q => g_aload_n d_M_isBody_3 rfl) ?_
  refine S.of1 (pc2 := 7) (fun Q => g_geti fl_RX11_296 gc_59_30 d_M_isBody_4) ?_
  refine S.of1 (pc2 := 8) (fun Q => g_iconst (v := (1 : Int32)) d_M_isBody_7 (by decide)) ?_
  refine S.of1 (pc2 := 9) (fun Q => g_isub d_M_isBody_8) ?_
  refine S.of1 (pc2 := 10) (fun Q => g_i2l d_M_isBody_9) ?_
  refine S.call_rI (pc3 := 13) rfl (c_M_within (d - 1) (by omega) (v1.toInt64) (0 : Int64) (((σ.1 59 30) - (1 : Int32)).toInt64) σ) (fun Q => g_callS (M2 := m_M_within) (vs := [.long (v1.toInt64), .long (0 : Int64), .long (((σ.1 59 30) - (1 : Int32)).toInt64)]) (st := []) ls_RX11_84 rfl (Nat.le_of_ble_eq_true rfl) (by omega) (Nat.le_of_ble_eq_true rfl) rfl d_M_isBody_10) (fun q1 => ?_)
  refine S.chk (fun h2 => ?_)
  exact S.ret (fun Q hq => g_zret rfl (gzb_n h2) d_M_isBody_13 hq)
def f_M_kindOf (v1 : Int32) (σ : gS) : Option Int32 :=
  if gix v1 50 then some (σ.1 74 v1.toNatClampNeg) else none
theorem c_M_kindOf (d : Nat) (hd : 1 ≤ d) (v1 : Int32) (σ : gS) : C (rI σ) d m_M_kindOf [.ref 59, .int v1] σ (f_M_kindOf v1 σ) := by
  unfold f_M_kindOf
  refine C.of (by decide +kernel) (Nat.le_of_ble_eq_true rfl) (L := [some (.ref 59), some (.int v1)]) rfl ?_
  refine S.of1 (pc2 := 1) (fun Q => g_aload_n d_M_kindOf_0 rfl) ?_
  refine S.of1 (pc2 := 4) (fun Q => g_getr fl_RX11_52 gc_59_31 d_M_kindOf_1) ?_
  refine S.of1 (pc2 := 5) (fun Q => g_iload_n d_M_kindOf_4 rfl) ?_
  refine S.chk (fun h1 => ?_)
  refine S.of1 (pc2 := 6) (fun Q => g_iald ga_74 (gix_in h1) d_M_kindOf_5) ?_
  exact S.ret (fun Q hq => g_iret rfl d_M_kindOf_6 hq)
def f_M_body (v1 : Int32) (σ : gS) : Option (Int32 × gS) :=
  (f_M_within (v1.toInt64) (0 : Int64) (7 : Int64)).bind fun q1 => if q1 = 0 then some ((-1 : Int32), σ) else if (σ.1 59 30) = (50 : Int32) then some ((-3 : Int32), σ) else if gix (σ.1 59 30) 50 then gup (gpi σ 74 (σ.1 59 30).toNatClampNeg v1) fun s5 => gup (gpi s5 59 30 ((s5.1 59 30) + (1 : Int32))) fun s6 => some (((s6.1 59 30) - (1 : Int32)), s6) else none
theorem c_M_body (d : Nat) (hd : 2 ≤ d) (v1 : Int32) (σ : gS) : C wI d m_M_body [.ref 59, .int v1] σ (f_M_body v1 σ) := by
  unfold f_M_body
  refine C.of (by decide +kernel) (Nat.le_of_ble_eq_true rfl) (L := [some (.ref 59), some (.int v1)]) rfl ?_
  refine S.of1 (pc2 := 1) (fun Q => g_iload_n d_M_body_0 rfl) ?_
  refine S.of1 (pc2 := 2) (fun Q => g_i2l d_M_body_1) ?_
  refine S.of1 (pc2 := 3) (fun Q => g_lconst (v := (0 : Int64)) d_M_body_2 (by decide)) ?_
  refine S.of1 (pc2 := 6) (fun Q => g_ldc2 (v := (7 : Int64)) d_M_body_3 w_1271) ?_
  refine S.call_rI (pc3 := 9) rfl (c_M_within (d - 1) (by omega) (v1.toInt64) (0 : Int64) (7 : Int64) σ) (fun Q => g_callS (M2 := m_M_within) (vs := [.long (v1.toInt64), .long (0 : Int64), .long (7 : Int64)]) (st := []) ls_RX11_84 rfl (Nat.le_of_ble_eq_true rfl) (by omega) (Nat.le_of_ble_eq_true rfl) rfl d_M_body_6) (fun q1 => ?_)
  refine S.br (c := q1 = 0) (t := 12) (e := 14) (fun Q kt kf => g_if_ne d_M_body_9 rfl kf kt) (fun h2 => ?_) (fun h2 => ?_)
  · refine S.of1 (pc2 := 13) (fun Q => g_iconst (v := (-1 : Int32)) d_M_body_12 (by decide)) ?_
    exact S.ret (fun Q hq => g_iret rfl d_M_body_13 hq)
  · refine S.of1 (pc2 := 15) (fun Q => g_aload_n d_M_body_14 rfl) ?_
    refine S.of1 (pc2 := 18) (fun Q => g_geti fl_RX11_296 gc_59_30 d_M_body_15) ?_
    refine S.of1 (pc2 := 20) (fun Q => g_bipush (v := (50 : Int32)) d_M_body_18 (by decide)) ?_
    refine S.br (c := (σ.1 59 30) = (50 : Int32)) (t := 23) (e := 26) (fun Q kt kf => g_icmp_ne d_M_body_20 rfl kf kt) (fun h3 => ?_) (fun h3 => ?_)
    · refine S.of1 (pc2 := 25) (fun Q => g_bipush (v := (-3 : Int32)) d_M_body_23 (by decide)) ?_
      exact S.ret (fun Q hq => g_iret rfl d_M_body_25 hq)
    · refine S.of1 (pc2 := 27) (fun Q => g_aload_n d_M_body_26 rfl) ?_
      refine S.of1 (pc2 := 30) (fun Q => g_getr fl_RX11_52 gc_59_31 d_M_body_27) ?_
      refine S.of1 (pc2 := 31) (fun Q => g_aload_n d_M_body_30 rfl) ?_
      refine S.of1 (pc2 := 34) (fun Q => g_geti fl_RX11_296 gc_59_30 d_M_body_31) ?_
      refine S.of1 (pc2 := 35) (fun Q => g_iload_n d_M_body_34 rfl) ?_
      refine S.chk (fun h4 => ?_)
      refine S.of1 (pc2 := 36) (fun Q => g_iast ga_74 (gix_in h4) d_M_body_35) ?_
      refine S.gup (fun s5 => ?_)
      refine S.of1 (pc2 := 37) (fun Q => g_aload_n d_M_body_36 rfl) ?_
      refine S.of1 (pc2 := 38) (fun Q => g_dup d_M_body_37 rfl) ?_
      refine S.of1 (pc2 := 41) (fun Q => g_geti fl_RX11_296 gc_59_30 d_M_body_38) ?_
      refine S.of1 (pc2 := 42) (fun Q => g_iconst (v := (1 : Int32)) d_M_body_41 (by decide)) ?_
      refine S.of1 (pc2 := 43) (fun Q => g_iadd d_M_body_42) ?_
      refine S.of1 (pc2 := 46) (fun Q => g_puti fl_RX11_296 gc_59_30 rfl rfl d_M_body_43) ?_
      refine S.gup (fun s6 => ?_)
      refine S.of1 (pc2 := 47) (fun Q => g_aload_n d_M_body_46 rfl) ?_
      refine S.of1 (pc2 := 50) (fun Q => g_geti fl_RX11_296 gc_59_30 d_M_body_47) ?_
      refine S.of1 (pc2 := 51) (fun Q => g_iconst (v := (1 : Int32)) d_M_body_50 (by decide)) ?_
      refine S.of1 (pc2 := 52) (fun Q => g_isub d_M_body_51) ?_
      exact S.ret (fun Q hq => g_iret rfl d_M_body_52 hq)
def f_M_above (v0 : Int32) : Option Int32 :=
  if v0 = (3 : Int32) then some (2 : Int32) else if v0 = (4 : Int32) then some (1 : Int32) else if v0 = (5 : Int32) then some (3 : Int32) else if v0 = (7 : Int32) then some (4 : Int32) else some (0 : Int32)
theorem c_M_above (d : Nat) (hd : 1 ≤ d) (v0 : Int32) (σ : gS) : C (rI σ) d m_M_above [.int v0] σ (f_M_above v0) := by
  unfold f_M_above
  refine C.of (by decide +kernel) (Nat.le_of_ble_eq_true rfl) (L := [some (.int v0)]) rfl ?_
  refine S.of1 (pc2 := 1) (fun Q => g_iload_n d_M_above_0 rfl) ?_
  refine S.of1 (pc2 := 2) (fun Q => g_iconst (v := (3 : Int32)) d_M_above_1 (by decide)) ?_
  refine S.br (c := v0 = (3 : Int32)) (t := 5) (e := 9) (fun Q kt kf => g_icmp_ne d_M_above_2 rfl kf kt) (fun h1 => ?_) (fun h1 => ?_)
  · refine S.of1 (pc2 := 6) (fun Q => g_iconst (v := (2 : Int32)) d_M_above_5 (by decide)) ?_
    refine S.of1 (pc2 := 38) (fun Q => g_goto d_M_above_6 rfl) ?_
    exact S.ret (fun Q hq => g_iret rfl d_M_above_38 hq)
  · refine S.of1 (pc2 := 10) (fun Q => g_iload_n d_M_above_9 rfl) ?_
    refine S.of1 (pc2 := 11) (fun Q => g_iconst (v := (4 : Int32)) d_M_above_10 (by decide)) ?_
    refine S.br (c := v0 = (4 : Int32)) (t := 14) (e := 18) (fun Q kt kf => g_icmp_ne d_M_above_11 rfl kf kt) (fun h2 => ?_) (fun h2 => ?_)
    · refine S.of1 (pc2 := 15) (fun Q => g_iconst (v := (1 : Int32)) d_M_above_14 (by decide)) ?_
      refine S.of1 (pc2 := 38) (fun Q => g_goto d_M_above_15 rfl) ?_
      exact S.ret (fun Q hq => g_iret rfl d_M_above_38 hq)
    · refine S.of1 (pc2 := 19) (fun Q => g_iload_n d_M_above_18 rfl) ?_
      refine S.of1 (pc2 := 20) (fun Q => g_iconst (v := (5 : Int32)) d_M_above_19 (by decide)) ?_
      refine S.br (c := v0 = (5 : Int32)) (t := 23) (e := 27) (fun Q kt kf => g_icmp_ne d_M_above_20 rfl kf kt) (fun h3 => ?_) (fun h3 => ?_)
      · refine S.of1 (pc2 := 24) (fun Q => g_iconst (v := (3 : Int32)) d_M_above_23 (by decide)) ?_
        refine S.of1 (pc2 := 38) (fun Q => g_goto d_M_above_24 rfl) ?_
        exact S.ret (fun Q hq => g_iret rfl d_M_above_38 hq)
      · refine S.of1 (pc2 := 28) (fun Q => g_iload_n d_M_above_27 rfl) ?_
        refine S.of1 (pc2 := 30) (fun Q => g_bipush (v := (7 : Int32)) d_M_above_28 (by decide)) ?_
        refine S.br (c := v0 = (7 : Int32)) (t := 33) (e := 37) (fun Q kt kf => g_icmp_ne d_M_above_30 rfl kf kt) (fun h4 => ?_) (fun h4 => ?_)
        · refine S.of1 (pc2 := 34) (fun Q => g_iconst (v := (4 : Int32)) d_M_above_33 (by decide)) ?_
          refine S.of1 (pc2 := 38) (fun Q => g_goto d_M_above_34 rfl) ?_
          exact S.ret (fun Q hq => g_iret rfl d_M_above_38 hq)
        · refine S.of1 (pc2 := 38) (fun Q => g_iconst (v := (0 : Int32)) d_M_above_37 (by decide)) ?_
          exact S.ret (fun Q hq => g_iret rfl d_M_above_38 hq)
def f_M_runs_j19 (σ : gS) : Option gS :=
  gup (gpi σ 59 33 ((σ.1 59 33) + (1 : Int32))) fun s2 => some s2
theorem s_M_runs_j19 (d : Nat) (hd : 1 ≤ d) (σ : gS) : S wV m_M_runs d 19 [some (.ref 59), none] [] σ (f_M_runs_j19 σ) := by
  unfold f_M_runs_j19
  refine S.of1 (pc2 := 20) (fun Q => g_aload_n d_M_runs_19 rfl) ?_
  refine S.of1 (pc2 := 21) (fun Q => g_dup d_M_runs_20 rfl) ?_
  refine S.of1 (pc2 := 24) (fun Q => g_geti fl_RX11_299 gc_59_33 d_M_runs_21) ?_
  refine S.of1 (pc2 := 25) (fun Q => g_iconst (v := (1 : Int32)) d_M_runs_24 (by decide)) ?_
  refine S.of1 (pc2 := 26) (fun Q => g_iadd d_M_runs_25) ?_
  refine S.of1 (pc2 := 29) (fun Q => g_puti fl_RX11_299 gc_59_33 rfl rfl d_M_runs_26) ?_
  refine S.gup (fun s2 => ?_)
  exact S.ret (fun Q hq => g_vret rfl d_M_runs_29 hq)
def f_M_runs (v1 : Int32) (σ : gS) : Option gS :=
  if (24 : Int32) ≤ (σ.1 59 33) then f_M_runs_j19 σ else if gix (σ.1 59 33) 24 then gup (gpi σ 75 (σ.1 59 33).toNatClampNeg v1) fun s4 => f_M_runs_j19 s4 else none
theorem c_M_runs (d : Nat) (hd : 1 ≤ d) (v1 : Int32) (σ : gS) : C wV d m_M_runs [.ref 59, .int v1] σ (f_M_runs v1 σ) := by
  unfold f_M_runs
  refine C.of (by decide +kernel) (Nat.le_of_ble_eq_true rfl) (L := [some (.ref 59), some (.int v1)]) rfl ?_
  refine S.of1 (pc2 := 1) (fun Q => g_aload_n d_M_runs_0 rfl) ?_
  refine S.of1 (pc2 := 4) (fun Q => g_geti fl_RX11_299 gc_59_33 d_M_runs_1) ?_
  refine S.of1 (pc2 := 6) (fun Q => g_bipush (v := (24 : Int32)) d_M_runs_4 (by decide)) ?_
  refine S.br (c := (24 : Int32) ≤ (σ.1 59 33)) (t := 19) (e := 9) (fun Q kt kf => g_icmp_ge d_M_runs_6 rfl kt kf) (fun h1 => ?_) (fun h1 => ?_)
  · exact S.wk (L2 := [some (.ref 59), none]) (And.intro rfl trivial) (s_M_runs_j19 d hd σ)
  · refine S.of1 (pc2 := 10) (fun Q => g_aload_n d_M_runs_9 rfl) ?_
    refine S.of1 (pc2 := 13) (fun Q => g_getr fl_RX11_55 gc_59_32 d_M_runs_10) ?_
    refine S.of1 (pc2 := 14) (fun Q => g_aload_n d_M_runs_13 rfl) ?_
    refine S.of1 (pc2 := 17) (fun Q => g_geti fl_RX11_299 gc_59_33 d_M_runs_14) ?_
    refine S.of1 (pc2 := 18) (fun Q => g_iload_n d_M_runs_17 rfl) ?_
    refine S.chk (fun h3 => ?_)
    refine S.of1 (pc2 := 19) (fun Q => g_iast ga_75 (gix_in h3) d_M_runs_18) ?_
    refine S.gup (fun s4 => ?_)
    exact S.wk (L2 := [some (.ref 59), none]) (And.intro rfl trivial) (s_M_runs_j19 d hd s4)
def f_M_fallsAs_j16 (kfallsAs : Int32 → Int32 → gS → Option (Int32 × gS)) (v2 : Int32) (σ : gS) : Option (Int32 × gS) :=
  (f_M_runs (20 : Int32) σ).bind fun s2 => (kfallsAs (0 : Int32) v2 s2).bind fun q3 => some ((q3.1 + (3 : Int32)), q3.2)
theorem s_M_fallsAs_j16 (D : Nat) (hD : 1 ≤ D) (kfallsAs : Int32 → Int32 → gS → Option (Int32 × gS)) (hkfallsAs : ∀ (d : Nat) (_ : D ≤ d) (v1 : Int32) (v2 : Int32) (σ : gS), C wI d m_M_fallsAs [.ref 59, .int v1, .int v2] σ (kfallsAs v1 v2 σ)) (d : Nat) (hd : D + 1 ≤ d) (v2 : Int32) (σ : gS) : S wI m_M_fallsAs d 16 [some (.ref 59), none, some (.int v2)] [] σ (f_M_fallsAs_j16 kfallsAs v2 σ) := by
  unfold f_M_fallsAs_j16
  refine S.of1 (pc2 := 17) (fun Q => g_aload_n d_M_fallsAs_16 rfl) ?_
  refine S.of1 (pc2 := 19) (fun Q => g_bipush (v := (20 : Int32)) d_M_fallsAs_17 (by decide)) ?_
  refine S.call_wV (pc3 := 22) rfl (c_M_runs (d - 1) (by omega) (20 : Int32) σ) (fun Q => g_callV (M2 := m_M_runs) (vs := [.int (20 : Int32)]) (st := []) lv_RX11_302 gk_59 rfl rfl (Nat.le_of_ble_eq_true rfl) (by omega) (Nat.le_of_ble_eq_true rfl) rfl d_M_fallsAs_19) (fun s2 => ?_)
  refine S.of1 (pc2 := 23) (fun Q => g_aload_n d_M_fallsAs_22 rfl) ?_
  refine S.of1 (pc2 := 24) (fun Q => g_iconst (v := (0 : Int32)) d_M_fallsAs_23 (by decide)) ?_
  refine S.of1 (pc2 := 25) (fun Q => g_iload_n d_M_fallsAs_24 rfl) ?_
  refine S.call_wI (pc3 := 28) rfl (hkfallsAs (d - 1) (by omega) (0 : Int32) v2 s2) (fun Q => g_callV (M2 := m_M_fallsAs) (vs := [.int (0 : Int32), .int v2]) (st := []) lv_RX11_306 gk_59 rfl rfl (Nat.le_of_ble_eq_true rfl) (by omega) (Nat.le_of_ble_eq_true rfl) rfl d_M_fallsAs_25) (fun q3 => ?_)
  refine S.of1 (pc2 := 29) (fun Q => g_iconst (v := (3 : Int32)) d_M_fallsAs_28 (by decide)) ?_
  refine S.of1 (pc2 := 30) (fun Q => g_iadd d_M_fallsAs_29) ?_
  exact S.ret (fun Q hq => g_iret rfl d_M_fallsAs_30 hq)
def fo_M_fallsAs (kfallsAs : Int32 → Int32 → gS → Option (Int32 × gS)) (v1 : Int32) (v2 : Int32) (σ : gS) : Option (Int32 × gS) :=
  if v1 = (1 : Int32) then f_M_fallsAs_j16 kfallsAs v2 σ else if v1 = (4 : Int32) then f_M_fallsAs_j16 kfallsAs v2 σ else if v1 = (7 : Int32) then f_M_fallsAs_j16 kfallsAs v2 σ else if v1 = (6 : Int32) then (f_M_runs (70 : Int32) σ).bind fun s7 => (kfallsAs (0 : Int32) v2 s7).bind fun q8 => some ((q8.1 * (2 : Int32)), q8.2) else (f_M_runs (1 : Int32) σ).bind fun s9 => some ((v2 + (s9.1 59 35)), s9)
theorem co_M_fallsAs (D : Nat) (hD : 1 ≤ D) (kfallsAs : Int32 → Int32 → gS → Option (Int32 × gS)) (hkfallsAs : ∀ (d : Nat) (_ : D ≤ d) (v1 : Int32) (v2 : Int32) (σ : gS), C wI d m_M_fallsAs [.ref 59, .int v1, .int v2] σ (kfallsAs v1 v2 σ)) (d : Nat) (hd : D + 1 ≤ d) (v1 : Int32) (v2 : Int32) (σ : gS) : C wI d m_M_fallsAs [.ref 59, .int v1, .int v2] σ (fo_M_fallsAs kfallsAs v1 v2 σ) := by
  unfold fo_M_fallsAs
  refine C.of (by decide +kernel) (Nat.le_of_ble_eq_true rfl) (L := [some (.ref 59), some (.int v1), some (.int v2)]) rfl ?_
  refine S.of1 (pc2 := 1) (fun Q => g_iload_n d_M_fallsAs_0 rfl) ?_
  refine S.of1 (pc2 := 2) (fun Q => g_iconst (v := (1 : Int32)) d_M_fallsAs_1 (by decide)) ?_
  refine S.br (c := v1 = (1 : Int32)) (t := 16) (e := 5) (fun Q kt kf => g_icmp_eq d_M_fallsAs_2 rfl kt kf) (fun h1 => ?_) (fun h1 => ?_)
  · exact S.wk (L2 := [some (.ref 59), none, some (.int v2)]) (And.intro rfl (And.intro rfl trivial)) (s_M_fallsAs_j16 D hD kfallsAs hkfallsAs d hd v2 σ)
  · refine S.of1 (pc2 := 6) (fun Q => g_iload_n d_M_fallsAs_5 rfl) ?_
    refine S.of1 (pc2 := 7) (fun Q => g_iconst (v := (4 : Int32)) d_M_fallsAs_6 (by decide)) ?_
    refine S.br (c := v1 = (4 : Int32)) (t := 16) (e := 10) (fun Q kt kf => g_icmp_eq d_M_fallsAs_7 rfl kt kf) (fun h4 => ?_) (fun h4 => ?_)
    · exact S.wk (L2 := [some (.ref 59), none, some (.int v2)]) (And.intro rfl (And.intro rfl trivial)) (s_M_fallsAs_j16 D hD kfallsAs hkfallsAs d hd v2 σ)
    · refine S.of1 (pc2 := 11) (fun Q => g_iload_n d_M_fallsAs_10 rfl) ?_
      refine S.of1 (pc2 := 13) (fun Q => g_bipush (v := (7 : Int32)) d_M_fallsAs_11 (by decide)) ?_
      refine S.br (c := v1 = (7 : Int32)) (t := 16) (e := 31) (fun Q kt kf => g_icmp_ne d_M_fallsAs_13 rfl kf kt) (fun h5 => ?_) (fun h5 => ?_)
      · exact S.wk (L2 := [some (.ref 59), none, some (.int v2)]) (And.intro rfl (And.intro rfl trivial)) (s_M_fallsAs_j16 D hD kfallsAs hkfallsAs d hd v2 σ)
      · refine S.of1 (pc2 := 32) (fun Q => g_iload_n d_M_fallsAs_31 rfl) ?_
        refine S.of1 (pc2 := 34) (fun Q => g_bipush (v := (6 : Int32)) d_M_fallsAs_32 (by decide)) ?_
        refine S.br (c := v1 = (6 : Int32)) (t := 37) (e := 52) (fun Q kt kf => g_icmp_ne d_M_fallsAs_34 rfl kf kt) (fun h6 => ?_) (fun h6 => ?_)
        · refine S.of1 (pc2 := 38) (fun Q => g_aload_n d_M_fallsAs_37 rfl) ?_
          refine S.of1 (pc2 := 40) (fun Q => g_bipush (v := (70 : Int32)) d_M_fallsAs_38 (by decide)) ?_
          refine S.call_wV (pc3 := 43) rfl (c_M_runs (d - 1) (by omega) (70 : Int32) σ) (fun Q => g_callV (M2 := m_M_runs) (vs := [.int (70 : Int32)]) (st := []) lv_RX11_302 gk_59 rfl rfl (Nat.le_of_ble_eq_true rfl) (by omega) (Nat.le_of_ble_eq_true rfl) rfl d_M_fallsAs_40) (fun s7 => ?_)
          refine S.of1 (pc2 := 44) (fun Q => g_aload_n d_M_fallsAs_43 rfl) ?_
          refine S.of1 (pc2 := 45) (fun Q => g_iconst (v := (0 : Int32)) d_M_fallsAs_44 (by decide)) ?_
          refine S.of1 (pc2 := 46) (fun Q => g_iload_n d_M_fallsAs_45 rfl) ?_
          refine S.call_wI (pc3 := 49) rfl (hkfallsAs (d - 1) (by omega) (0 : Int32) v2 s7) (fun Q => g_callV (M2 := m_M_fallsAs) (vs := [.int (0 : Int32), .int v2]) (st := []) lv_RX11_306 gk_59 rfl rfl (Nat.le_of_ble_eq_true rfl) (by omega) (Nat.le_of_ble_eq_true rfl) rfl d_M_fallsAs_46) (fun q8 => ?_)
          refine S.of1 (pc2 := 50) (fun Q => g_iconst (v := (2 : Int32)) d_M_fallsAs_49 (by decide)) ?_
          refine S.of1 (pc2 := 51) (fun Q => g_imul d_M_fallsAs_50) ?_
          exact S.ret (fun Q hq => g_iret rfl d_M_fallsAs_51 hq)
        · refine S.of1 (pc2 := 53) (fun Q => g_aload_n d_M_fallsAs_52 rfl) ?_
          refine S.of1 (pc2 := 54) (fun Q => g_iconst (v := (1 : Int32)) d_M_fallsAs_53 (by decide)) ?_
          refine S.call_wV (pc3 := 57) rfl (c_M_runs (d - 1) (by omega) (1 : Int32) σ) (fun Q => g_callV (M2 := m_M_runs) (vs := [.int (1 : Int32)]) (st := []) lv_RX11_302 gk_59 rfl rfl (Nat.le_of_ble_eq_true rfl) (by omega) (Nat.le_of_ble_eq_true rfl) rfl d_M_fallsAs_54) (fun s9 => ?_)
          refine S.of1 (pc2 := 58) (fun Q => g_iload_n d_M_fallsAs_57 rfl) ?_
          refine S.of1 (pc2 := 59) (fun Q => g_aload_n d_M_fallsAs_58 rfl) ?_
          refine S.of1 (pc2 := 62) (fun Q => g_geti fl_RX11_309 gc_59_35 d_M_fallsAs_59) ?_
          refine S.of1 (pc2 := 63) (fun Q => g_iadd d_M_fallsAs_62) ?_
          exact S.ret (fun Q hq => g_iret rfl d_M_fallsAs_63 hq)
def f_M_fallsAs : Nat → Int32 → Int32 → gS → Option (Int32 × gS)
  | 0, _, _, _ => none
  | n + 1, v1, v2, σ => fo_M_fallsAs (fun v1 v2 σ => f_M_fallsAs n v1 v2 σ) v1 v2 σ
theorem c_M_fallsAs : ∀ (n d : Nat) (_ : 1 + 1 * n ≤ d) (v1 : Int32) (v2 : Int32) (σ : gS), C wI d m_M_fallsAs [.ref 59, .int v1, .int v2] σ (f_M_fallsAs n v1 v2 σ) := by
  intro n
  induction n with
  | zero =>
    intros
    unfold f_M_fallsAs
    intro a Q h1 _
    cases h1
  | succ n ih =>
    intro d hd v1 v2 σ
    unfold f_M_fallsAs
    exact co_M_fallsAs (1 + 1 * n) (by omega) _ (fun d hd v1 v2 σ => ih d hd v1 v2 σ) d (by omega) v1 v2 σ
def f_M_deniesAs_j10 (kdeniesAs : Int32 → Int32 → gS → Option (Int32 × gS)) (v2 : Int32) (σ : gS) : Option (Int32 × gS) :=
  (f_M_runs (40 : Int32) σ).bind fun s2 => (kdeniesAs (2 : Int32) v2 s2).bind fun q3 => some ((q3.1 * (3 : Int32)), q3.2)
theorem s_M_deniesAs_j10 (D : Nat) (hD : 6 ≤ D) (kdeniesAs : Int32 → Int32 → gS → Option (Int32 × gS)) (hkdeniesAs : ∀ (d : Nat) (_ : D ≤ d) (v1 : Int32) (v2 : Int32) (σ : gS), C wI d m_M_deniesAs [.ref 59, .int v1, .int v2] σ (kdeniesAs v1 v2 σ)) (d : Nat) (hd : D + 1 ≤ d) (v2 : Int32) (σ : gS) : S wI m_M_deniesAs d 10 [some (.ref 59), none, some (.int v2), none] [] σ (f_M_deniesAs_j10 kdeniesAs v2 σ) := by
  unfold f_M_deniesAs_j10
  refine S.of1 (pc2 := 11) (fun Q => g_aload_n d_M_deniesAs_10 rfl) ?_
  refine S.of1 (pc2 := 13) (fun Q => g_bipush (v := (40 : Int32)) d_M_deniesAs_11 (by decide)) ?_
  refine S.call_wV (pc3 := 16) rfl (c_M_runs (d - 1) (by omega) (40 : Int32) σ) (fun Q => g_callV (M2 := m_M_runs) (vs := [.int (40 : Int32)]) (st := []) lv_RX11_302 gk_59 rfl rfl (Nat.le_of_ble_eq_true rfl) (by omega) (Nat.le_of_ble_eq_true rfl) rfl d_M_deniesAs_13) (fun s2 => ?_)
  refine S.of1 (pc2 := 17) (fun Q => g_aload_n d_M_deniesAs_16 rfl) ?_
  refine S.of1 (pc2 := 18) (fun Q => g_iconst (v := (2 : Int32)) d_M_deniesAs_17 (by decide)) ?_
  refine S.of1 (pc2 := 19) (fun Q => g_iload_n d_M_deniesAs_18 rfl) ?_
  refine S.call_wI (pc3 := 22) rfl (hkdeniesAs (d - 1) (by omega) (2 : Int32) v2 s2) (fun Q => g_callV (M2 := m_M_deniesAs) (vs := [.int (2 : Int32), .int v2]) (st := []) lv_RX11_318 gk_59 rfl rfl (Nat.le_of_ble_eq_true rfl) (by omega) (Nat.le_of_ble_eq_true rfl) rfl d_M_deniesAs_19) (fun q3 => ?_)
  refine S.of1 (pc2 := 23) (fun Q => g_iconst (v := (3 : Int32)) d_M_deniesAs_22 (by decide)) ?_
  refine S.of1 (pc2 := 24) (fun Q => g_imul d_M_deniesAs_23) ?_
  exact S.ret (fun Q hq => g_iret rfl d_M_deniesAs_24 hq)
def f_M_deniesAs_j36 (kdeniesAs : Int32 → Int32 → gS → Option (Int32 × gS)) (v2 : Int32) (σ : gS) : Option (Int32 × gS) :=
  (f_M_runs (50 : Int32) σ).bind fun s6 => (kdeniesAs (1 : Int32) v2 s6).bind fun q7 => (f_M_fallsAs 5 (q7.2.1 59 34) (2 : Int32) q7.2).bind fun q8 => some ((q7.1 - q8.1), q8.2)
theorem s_M_deniesAs_j36 (D : Nat) (hD : 6 ≤ D) (kdeniesAs : Int32 → Int32 → gS → Option (Int32 × gS)) (hkdeniesAs : ∀ (d : Nat) (_ : D ≤ d) (v1 : Int32) (v2 : Int32) (σ : gS), C wI d m_M_deniesAs [.ref 59, .int v1, .int v2] σ (kdeniesAs v1 v2 σ)) (d : Nat) (hd : D + 1 ≤ d) (v2 : Int32) (σ : gS) : S wI m_M_deniesAs d 36 [some (.ref 59), none, some (.int v2), none] [] σ (f_M_deniesAs_j36 kdeniesAs v2 σ) := by
  unfold f_M_deniesAs_j36
  refine S.of1 (pc2 := 37) (fun Q => g_aload_n d_M_deniesAs_36 rfl) ?_
  refine S.of1 (pc2 := 39) (fun Q => g_bipush (v := (50 : Int32)) d_M_deniesAs_37 (by decide)) ?_
  refine S.call_wV (pc3 := 42) rfl (c_M_runs (d - 1) (by omega) (50 : Int32) σ) (fun Q => g_callV (M2 := m_M_runs) (vs := [.int (50 : Int32)]) (st := []) lv_RX11_302 gk_59 rfl rfl (Nat.le_of_ble_eq_true rfl) (by omega) (Nat.le_of_ble_eq_true rfl) rfl d_M_deniesAs_39) (fun s6 => ?_)
  refine S.of1 (pc2 := 43) (fun Q => g_aload_n d_M_deniesAs_42 rfl) ?_
  refine S.of1 (pc2 := 44) (fun Q => g_iconst (v := (1 : Int32)) d_M_deniesAs_43 (by decide)) ?_
  refine S.of1 (pc2 := 45) (fun Q => g_iload_n d_M_deniesAs_44 rfl) ?_
  refine S.call_wI (pc3 := 48) rfl (hkdeniesAs (d - 1) (by omega) (1 : Int32) v2 s6) (fun Q => g_callV (M2 := m_M_deniesAs) (vs := [.int (1 : Int32), .int v2]) (st := []) lv_RX11_318 gk_59 rfl rfl (Nat.le_of_ble_eq_true rfl) (by omega) (Nat.le_of_ble_eq_true rfl) rfl d_M_deniesAs_45) (fun q7 => ?_)
  refine S.of1 (pc2 := 49) (L2 := [some (.ref 59), none, some (.int v2), some (.int q7.1)]) (fun Q => g_istore_n d_M_deniesAs_48 (Nat.le_of_ble_eq_true rfl) rfl) ?_
  refine S.of1 (pc2 := 50) (fun Q => g_iload_n d_M_deniesAs_49 rfl) ?_
  refine S.of1 (pc2 := 51) (fun Q => g_aload_n d_M_deniesAs_50 rfl) ?_
  refine S.of1 (pc2 := 52) (fun Q => g_aload_n d_M_deniesAs_51 rfl) ?_
  refine S.of1 (pc2 := 55) (fun Q => g_geti fl_RX11_315 gc_59_34 d_M_deniesAs_52) ?_
  refine S.of1 (pc2 := 56) (fun Q => g_iconst (v := (2 : Int32)) d_M_deniesAs_55 (by decide)) ?_
  refine S.call_wI (pc3 := 59) rfl (c_M_fallsAs 5 (d - 1) (by omega) (q7.2.1 59 34) (2 : Int32) q7.2) (fun Q => g_callV (M2 := m_M_fallsAs) (vs := [.int (q7.2.1 59 34), .int (2 : Int32)]) (st := [.int q7.1]) lv_RX11_306 gk_59 rfl rfl (Nat.le_of_ble_eq_true rfl) (by omega) (Nat.le_of_ble_eq_true rfl) rfl d_M_deniesAs_56) (fun q8 => ?_)
  refine S.of1 (pc2 := 60) (fun Q => g_isub d_M_deniesAs_59) ?_
  exact S.ret (fun Q hq => g_iret rfl d_M_deniesAs_60 hq)
def fo_M_deniesAs (kdeniesAs : Int32 → Int32 → gS → Option (Int32 × gS)) (v1 : Int32) (v2 : Int32) (σ : gS) : Option (Int32 × gS) :=
  if v1 = (3 : Int32) then f_M_deniesAs_j10 kdeniesAs v2 σ else if v1 = (5 : Int32) then f_M_deniesAs_j10 kdeniesAs v2 σ else if v1 = (4 : Int32) then f_M_deniesAs_j36 kdeniesAs v2 σ else if v1 = (7 : Int32) then f_M_deniesAs_j36 kdeniesAs v2 σ else (f_M_runs (11 : Int32) σ).bind fun s10 => some ((v2 ^^^ (s10.1 59 35)), s10)
theorem co_M_deniesAs (D : Nat) (hD : 6 ≤ D) (kdeniesAs : Int32 → Int32 → gS → Option (Int32 × gS)) (hkdeniesAs : ∀ (d : Nat) (_ : D ≤ d) (v1 : Int32) (v2 : Int32) (σ : gS), C wI d m_M_deniesAs [.ref 59, .int v1, .int v2] σ (kdeniesAs v1 v2 σ)) (d : Nat) (hd : D + 1 ≤ d) (v1 : Int32) (v2 : Int32) (σ : gS) : C wI d m_M_deniesAs [.ref 59, .int v1, .int v2] σ (fo_M_deniesAs kdeniesAs v1 v2 σ) := by
  unfold fo_M_deniesAs
  refine C.of (by decide +kernel) (Nat.le_of_ble_eq_true rfl) (L := [some (.ref 59), some (.int v1), some (.int v2), none]) rfl ?_
  refine S.of1 (pc2 := 1) (fun Q => g_iload_n d_M_deniesAs_0 rfl) ?_
  refine S.of1 (pc2 := 2) (fun Q => g_iconst (v := (3 : Int32)) d_M_deniesAs_1 (by decide)) ?_
  refine S.br (c := v1 = (3 : Int32)) (t := 10) (e := 5) (fun Q kt kf => g_icmp_eq d_M_deniesAs_2 rfl kt kf) (fun h1 => ?_) (fun h1 => ?_)
  · exact S.wk (L2 := [some (.ref 59), none, some (.int v2), none]) (And.intro rfl (And.intro rfl trivial)) (s_M_deniesAs_j10 D hD kdeniesAs hkdeniesAs d hd v2 σ)
  · refine S.of1 (pc2 := 6) (fun Q => g_iload_n d_M_deniesAs_5 rfl) ?_
    refine S.of1 (pc2 := 7) (fun Q => g_iconst (v := (5 : Int32)) d_M_deniesAs_6 (by decide)) ?_
    refine S.br (c := v1 = (5 : Int32)) (t := 10) (e := 25) (fun Q kt kf => g_icmp_ne d_M_deniesAs_7 rfl kf kt) (fun h4 => ?_) (fun h4 => ?_)
    · exact S.wk (L2 := [some (.ref 59), none, some (.int v2), none]) (And.intro rfl (And.intro rfl trivial)) (s_M_deniesAs_j10 D hD kdeniesAs hkdeniesAs d hd v2 σ)
    · refine S.of1 (pc2 := 26) (fun Q => g_iload_n d_M_deniesAs_25 rfl) ?_
      refine S.of1 (pc2 := 27) (fun Q => g_iconst (v := (4 : Int32)) d_M_deniesAs_26 (by decide)) ?_
      refine S.br (c := v1 = (4 : Int32)) (t := 36) (e := 30) (fun Q kt kf => g_icmp_eq d_M_deniesAs_27 rfl kt kf) (fun h5 => ?_) (fun h5 => ?_)
      · exact S.wk (L2 := [some (.ref 59), none, some (.int v2), none]) (And.intro rfl (And.intro rfl trivial)) (s_M_deniesAs_j36 D hD kdeniesAs hkdeniesAs d hd v2 σ)
      · refine S.of1 (pc2 := 31) (fun Q => g_iload_n d_M_deniesAs_30 rfl) ?_
        refine S.of1 (pc2 := 33) (fun Q => g_bipush (v := (7 : Int32)) d_M_deniesAs_31 (by decide)) ?_
        refine S.br (c := v1 = (7 : Int32)) (t := 36) (e := 61) (fun Q kt kf => g_icmp_ne d_M_deniesAs_33 rfl kf kt) (fun h9 => ?_) (fun h9 => ?_)
        · exact S.wk (L2 := [some (.ref 59), none, some (.int v2), none]) (And.intro rfl (And.intro rfl trivial)) (s_M_deniesAs_j36 D hD kdeniesAs hkdeniesAs d hd v2 σ)
        · refine S.of1 (pc2 := 62) (fun Q => g_aload_n d_M_deniesAs_61 rfl) ?_
          refine S.of1 (pc2 := 64) (fun Q => g_bipush (v := (11 : Int32)) d_M_deniesAs_62 (by decide)) ?_
          refine S.call_wV (pc3 := 67) rfl (c_M_runs (d - 1) (by omega) (11 : Int32) σ) (fun Q => g_callV (M2 := m_M_runs) (vs := [.int (11 : Int32)]) (st := []) lv_RX11_302 gk_59 rfl rfl (Nat.le_of_ble_eq_true rfl) (by omega) (Nat.le_of_ble_eq_true rfl) rfl d_M_deniesAs_64) (fun s10 => ?_)
          refine S.of1 (pc2 := 68) (fun Q => g_iload_n d_M_deniesAs_67 rfl) ?_
          refine S.of1 (pc2 := 69) (fun Q => g_aload_n d_M_deniesAs_68 rfl) ?_
          refine S.of1 (pc2 := 72) (fun Q => g_geti fl_RX11_309 gc_59_35 d_M_deniesAs_69) ?_
          refine S.of1 (pc2 := 73) (fun Q => g_ixor d_M_deniesAs_72) ?_
          exact S.ret (fun Q hq => g_iret rfl d_M_deniesAs_73 hq)
def f_M_deniesAs : Nat → Int32 → Int32 → gS → Option (Int32 × gS)
  | 0, _, _, _ => none
  | n + 1, v1, v2, σ => fo_M_deniesAs (fun v1 v2 σ => f_M_deniesAs n v1 v2 σ) v1 v2 σ
theorem c_M_deniesAs : ∀ (n d : Nat) (_ : 6 + 1 * n ≤ d) (v1 : Int32) (v2 : Int32) (σ : gS), C wI d m_M_deniesAs [.ref 59, .int v1, .int v2] σ (f_M_deniesAs n v1 v2 σ) := by
  intro n
  induction n with
  | zero =>
    intros
    unfold f_M_deniesAs
    intro a Q h1 _
    cases h1
  | succ n ih =>
    intro d hd v1 v2 σ
    unfold f_M_deniesAs
    exact co_M_deniesAs (6 + 1 * n) (by omega) _ (fun d hd v1 v2 σ => ih d hd v1 v2 σ) d (by omega) v1 v2 σ
def f_M_saysAs_j10 (ksaysAs : Int32 → Int32 → gS → Option (Int32 × gS)) (v2 : Int32) (σ : gS) : Option (Int32 × gS) :=
  (f_M_runs (41 : Int32) σ).bind fun s2 => (ksaysAs (2 : Int32) (v2 + (1 : Int32)) s2).bind fun q3 => some (q3.1, q3.2)
theorem s_M_saysAs_j10 (D : Nat) (hD : 11 ≤ D) (ksaysAs : Int32 → Int32 → gS → Option (Int32 × gS)) (hksaysAs : ∀ (d : Nat) (_ : D ≤ d) (v1 : Int32) (v2 : Int32) (σ : gS), C wI d m_M_saysAs [.ref 59, .int v1, .int v2] σ (ksaysAs v1 v2 σ)) (d : Nat) (hd : D + 1 ≤ d) (v2 : Int32) (σ : gS) : S wI m_M_saysAs d 10 [some (.ref 59), none, some (.int v2), none] [] σ (f_M_saysAs_j10 ksaysAs v2 σ) := by
  unfold f_M_saysAs_j10
  refine S.of1 (pc2 := 11) (fun Q => g_aload_n d_M_saysAs_10 rfl) ?_
  refine S.of1 (pc2 := 13) (fun Q => g_bipush (v := (41 : Int32)) d_M_saysAs_11 (by decide)) ?_
  refine S.call_wV (pc3 := 16) rfl (c_M_runs (d - 1) (by omega) (41 : Int32) σ) (fun Q => g_callV (M2 := m_M_runs) (vs := [.int (41 : Int32)]) (st := []) lv_RX11_302 gk_59 rfl rfl (Nat.le_of_ble_eq_true rfl) (by omega) (Nat.le_of_ble_eq_true rfl) rfl d_M_saysAs_13) (fun s2 => ?_)
  refine S.of1 (pc2 := 17) (fun Q => g_aload_n d_M_saysAs_16 rfl) ?_
  refine S.of1 (pc2 := 18) (fun Q => g_iconst (v := (2 : Int32)) d_M_saysAs_17 (by decide)) ?_
  refine S.of1 (pc2 := 19) (fun Q => g_iload_n d_M_saysAs_18 rfl) ?_
  refine S.of1 (pc2 := 20) (fun Q => g_iconst (v := (1 : Int32)) d_M_saysAs_19 (by decide)) ?_
  refine S.of1 (pc2 := 21) (fun Q => g_iadd d_M_saysAs_20) ?_
  refine S.call_wI (pc3 := 24) rfl (hksaysAs (d - 1) (by omega) (2 : Int32) (v2 + (1 : Int32)) s2) (fun Q => g_callV (M2 := m_M_saysAs) (vs := [.int (2 : Int32), .int (v2 + (1 : Int32))]) (st := []) lv_RX11_312 gk_59 rfl rfl (Nat.le_of_ble_eq_true rfl) (by omega) (Nat.le_of_ble_eq_true rfl) rfl d_M_saysAs_21) (fun q3 => ?_)
  exact S.ret (fun Q hq => g_iret rfl d_M_saysAs_24 hq)
def fo_M_saysAs (ksaysAs : Int32 → Int32 → gS → Option (Int32 × gS)) (v1 : Int32) (v2 : Int32) (σ : gS) : Option (Int32 × gS) :=
  if v1 = (3 : Int32) then f_M_saysAs_j10 ksaysAs v2 σ else if v1 = (5 : Int32) then f_M_saysAs_j10 ksaysAs v2 σ else if v1 = (2 : Int32) then (f_M_runs (30 : Int32) σ).bind fun s6 => (ksaysAs (0 : Int32) v2 s6).bind fun q7 => some ((-q7.1), q7.2) else if v1 = (7 : Int32) then (f_M_runs (80 : Int32) σ).bind fun s9 => (ksaysAs (4 : Int32) v2 s9).bind fun q10 => (f_M_deniesAs 5 (q10.2.1 59 34) (2 : Int32) q10.2).bind fun q11 => some ((q10.1 + q11.1), q11.2) else (f_M_runs (10 : Int32) σ).bind fun s12 => (f_M_fallsAs 5 (s12.1 59 34) v2 s12).bind fun q13 => some ((q13.1 * (2 : Int32)), q13.2)
theorem co_M_saysAs (D : Nat) (hD : 11 ≤ D) (ksaysAs : Int32 → Int32 → gS → Option (Int32 × gS)) (hksaysAs : ∀ (d : Nat) (_ : D ≤ d) (v1 : Int32) (v2 : Int32) (σ : gS), C wI d m_M_saysAs [.ref 59, .int v1, .int v2] σ (ksaysAs v1 v2 σ)) (d : Nat) (hd : D + 1 ≤ d) (v1 : Int32) (v2 : Int32) (σ : gS) : C wI d m_M_saysAs [.ref 59, .int v1, .int v2] σ (fo_M_saysAs ksaysAs v1 v2 σ) := by
  unfold fo_M_saysAs
  refine C.of (by decide +kernel) (Nat.le_of_ble_eq_true rfl) (L := [some (.ref 59), some (.int v1), some (.int v2), none]) rfl ?_
  refine S.of1 (pc2 := 1) (fun Q => g_iload_n d_M_saysAs_0 rfl) ?_
  refine S.of1 (pc2 := 2) (fun Q => g_iconst (v := (3 : Int32)) d_M_saysAs_1 (by decide)) ?_
  refine S.br (c := v1 = (3 : Int32)) (t := 10) (e := 5) (fun Q kt kf => g_icmp_eq d_M_saysAs_2 rfl kt kf) (fun h1 => ?_) (fun h1 => ?_)
  · exact S.wk (L2 := [some (.ref 59), none, some (.int v2), none]) (And.intro rfl (And.intro rfl trivial)) (s_M_saysAs_j10 D hD ksaysAs hksaysAs d hd v2 σ)
  · refine S.of1 (pc2 := 6) (fun Q => g_iload_n d_M_saysAs_5 rfl) ?_
    refine S.of1 (pc2 := 7) (fun Q => g_iconst (v := (5 : Int32)) d_M_saysAs_6 (by decide)) ?_
    refine S.br (c := v1 = (5 : Int32)) (t := 10) (e := 25) (fun Q kt kf => g_icmp_ne d_M_saysAs_7 rfl kf kt) (fun h4 => ?_) (fun h4 => ?_)
    · exact S.wk (L2 := [some (.ref 59), none, some (.int v2), none]) (And.intro rfl (And.intro rfl trivial)) (s_M_saysAs_j10 D hD ksaysAs hksaysAs d hd v2 σ)
    · refine S.of1 (pc2 := 26) (fun Q => g_iload_n d_M_saysAs_25 rfl) ?_
      refine S.of1 (pc2 := 27) (fun Q => g_iconst (v := (2 : Int32)) d_M_saysAs_26 (by decide)) ?_
      refine S.br (c := v1 = (2 : Int32)) (t := 30) (e := 44) (fun Q kt kf => g_icmp_ne d_M_saysAs_27 rfl kf kt) (fun h5 => ?_) (fun h5 => ?_)
      · refine S.of1 (pc2 := 31) (fun Q => g_aload_n d_M_saysAs_30 rfl) ?_
        refine S.of1 (pc2 := 33) (fun Q => g_bipush (v := (30 : Int32)) d_M_saysAs_31 (by decide)) ?_
        refine S.call_wV (pc3 := 36) rfl (c_M_runs (d - 1) (by omega) (30 : Int32) σ) (fun Q => g_callV (M2 := m_M_runs) (vs := [.int (30 : Int32)]) (st := []) lv_RX11_302 gk_59 rfl rfl (Nat.le_of_ble_eq_true rfl) (by omega) (Nat.le_of_ble_eq_true rfl) rfl d_M_saysAs_33) (fun s6 => ?_)
        refine S.of1 (pc2 := 37) (fun Q => g_aload_n d_M_saysAs_36 rfl) ?_
        refine S.of1 (pc2 := 38) (fun Q => g_iconst (v := (0 : Int32)) d_M_saysAs_37 (by decide)) ?_
        refine S.of1 (pc2 := 39) (fun Q => g_iload_n d_M_saysAs_38 rfl) ?_
        refine S.call_wI (pc3 := 42) rfl (hksaysAs (d - 1) (by omega) (0 : Int32) v2 s6) (fun Q => g_callV (M2 := m_M_saysAs) (vs := [.int (0 : Int32), .int v2]) (st := []) lv_RX11_312 gk_59 rfl rfl (Nat.le_of_ble_eq_true rfl) (by omega) (Nat.le_of_ble_eq_true rfl) rfl d_M_saysAs_39) (fun q7 => ?_)
        refine S.of1 (pc2 := 43) (fun Q => g_ineg d_M_saysAs_42) ?_
        exact S.ret (fun Q hq => g_iret rfl d_M_saysAs_43 hq)
      · refine S.of1 (pc2 := 45) (fun Q => g_iload_n d_M_saysAs_44 rfl) ?_
        refine S.of1 (pc2 := 47) (fun Q => g_bipush (v := (7 : Int32)) d_M_saysAs_45 (by decide)) ?_
        refine S.br (c := v1 = (7 : Int32)) (t := 50) (e := 75) (fun Q kt kf => g_icmp_ne d_M_saysAs_47 rfl kf kt) (fun h8 => ?_) (fun h8 => ?_)
        · refine S.of1 (pc2 := 51) (fun Q => g_aload_n d_M_saysAs_50 rfl) ?_
          refine S.of1 (pc2 := 53) (fun Q => g_bipush (v := (80 : Int32)) d_M_saysAs_51 (by decide)) ?_
          refine S.call_wV (pc3 := 56) rfl (c_M_runs (d - 1) (by omega) (80 : Int32) σ) (fun Q => g_callV (M2 := m_M_runs) (vs := [.int (80 : Int32)]) (st := []) lv_RX11_302 gk_59 rfl rfl (Nat.le_of_ble_eq_true rfl) (by omega) (Nat.le_of_ble_eq_true rfl) rfl d_M_saysAs_53) (fun s9 => ?_)
          refine S.of1 (pc2 := 57) (fun Q => g_aload_n d_M_saysAs_56 rfl) ?_
          refine S.of1 (pc2 := 58) (fun Q => g_iconst (v := (4 : Int32)) d_M_saysAs_57 (by decide)) ?_
          refine S.of1 (pc2 := 59) (fun Q => g_iload_n d_M_saysAs_58 rfl) ?_
          refine S.call_wI (pc3 := 62) rfl (hksaysAs (d - 1) (by omega) (4 : Int32) v2 s9) (fun Q => g_callV (M2 := m_M_saysAs) (vs := [.int (4 : Int32), .int v2]) (st := []) lv_RX11_312 gk_59 rfl rfl (Nat.le_of_ble_eq_true rfl) (by omega) (Nat.le_of_ble_eq_true rfl) rfl d_M_saysAs_59) (fun q10 => ?_)
          refine S.of1 (pc2 := 63) (L2 := [some (.ref 59), some (.int v1), some (.int v2), some (.int q10.1)]) (fun Q => g_istore_n d_M_saysAs_62 (Nat.le_of_ble_eq_true rfl) rfl) ?_
          refine S.of1 (pc2 := 64) (fun Q => g_iload_n d_M_saysAs_63 rfl) ?_
          refine S.of1 (pc2 := 65) (fun Q => g_aload_n d_M_saysAs_64 rfl) ?_
          refine S.of1 (pc2 := 66) (fun Q => g_aload_n d_M_saysAs_65 rfl) ?_
          refine S.of1 (pc2 := 69) (fun Q => g_geti fl_RX11_315 gc_59_34 d_M_saysAs_66) ?_
          refine S.of1 (pc2 := 70) (fun Q => g_iconst (v := (2 : Int32)) d_M_saysAs_69 (by decide)) ?_
          refine S.call_wI (pc3 := 73) rfl (c_M_deniesAs 5 (d - 1) (by omega) (q10.2.1 59 34) (2 : Int32) q10.2) (fun Q => g_callV (M2 := m_M_deniesAs) (vs := [.int (q10.2.1 59 34), .int (2 : Int32)]) (st := [.int q10.1]) lv_RX11_318 gk_59 rfl rfl (Nat.le_of_ble_eq_true rfl) (by omega) (Nat.le_of_ble_eq_true rfl) rfl d_M_saysAs_70) (fun q11 => ?_)
          refine S.of1 (pc2 := 74) (fun Q => g_iadd d_M_saysAs_73) ?_
          exact S.ret (fun Q hq => g_iret rfl d_M_saysAs_74 hq)
        · refine S.of1 (pc2 := 76) (fun Q => g_aload_n d_M_saysAs_75 rfl) ?_
          refine S.of1 (pc2 := 78) (fun Q => g_bipush (v := (10 : Int32)) d_M_saysAs_76 (by decide)) ?_
          refine S.call_wV (pc3 := 81) rfl (c_M_runs (d - 1) (by omega) (10 : Int32) σ) (fun Q => g_callV (M2 := m_M_runs) (vs := [.int (10 : Int32)]) (st := []) lv_RX11_302 gk_59 rfl rfl (Nat.le_of_ble_eq_true rfl) (by omega) (Nat.le_of_ble_eq_true rfl) rfl d_M_saysAs_78) (fun s12 => ?_)
          refine S.of1 (pc2 := 82) (fun Q => g_aload_n d_M_saysAs_81 rfl) ?_
          refine S.of1 (pc2 := 83) (fun Q => g_aload_n d_M_saysAs_82 rfl) ?_
          refine S.of1 (pc2 := 86) (fun Q => g_geti fl_RX11_315 gc_59_34 d_M_saysAs_83) ?_
          refine S.of1 (pc2 := 87) (fun Q => g_iload_n d_M_saysAs_86 rfl) ?_
          refine S.call_wI (pc3 := 90) rfl (c_M_fallsAs 5 (d - 1) (by omega) (s12.1 59 34) v2 s12) (fun Q => g_callV (M2 := m_M_fallsAs) (vs := [.int (s12.1 59 34), .int v2]) (st := []) lv_RX11_306 gk_59 rfl rfl (Nat.le_of_ble_eq_true rfl) (by omega) (Nat.le_of_ble_eq_true rfl) rfl d_M_saysAs_87) (fun q13 => ?_)
          refine S.of1 (pc2 := 91) (fun Q => g_iconst (v := (2 : Int32)) d_M_saysAs_90 (by decide)) ?_
          refine S.of1 (pc2 := 92) (fun Q => g_imul d_M_saysAs_91) ?_
          exact S.ret (fun Q hq => g_iret rfl d_M_saysAs_92 hq)
def f_M_saysAs : Nat → Int32 → Int32 → gS → Option (Int32 × gS)
  | 0, _, _, _ => none
  | n + 1, v1, v2, σ => fo_M_saysAs (fun v1 v2 σ => f_M_saysAs n v1 v2 σ) v1 v2 σ
theorem c_M_saysAs : ∀ (n d : Nat) (_ : 11 + 1 * n ≤ d) (v1 : Int32) (v2 : Int32) (σ : gS), C wI d m_M_saysAs [.ref 59, .int v1, .int v2] σ (f_M_saysAs n v1 v2 σ) := by
  intro n
  induction n with
  | zero =>
    intros
    unfold f_M_saysAs
    intro a Q h1 _
    cases h1
  | succ n ih =>
    intro d hd v1 v2 σ
    unfold f_M_saysAs
    exact co_M_saysAs (11 + 1 * n) (by omega) _ (fun d hd v1 v2 σ => ih d hd v1 v2 σ) d (by omega) v1 v2 σ
def fo_M_tellsAs (ktellsAs : Int32 → Int32 → gS → Option (Int32 × gS)) (v1 : Int32) (v2 : Int32) (σ : gS) : Option (Int32 × gS) :=
  if v1 = (5 : Int32) then (f_M_runs (60 : Int32) σ).bind fun s2 => (ktellsAs (3 : Int32) v2 s2).bind fun q3 => some ((q3.1 ^^^ (5 : Int32)), q3.2) else if v1 = (7 : Int32) then (f_M_runs (81 : Int32) σ).bind fun s5 => (ktellsAs (4 : Int32) v2 s5).bind fun q6 => some ((q6.1 - (1 : Int32)), q6.2) else (f_M_runs (2 : Int32) σ).bind fun s7 => (f_M_saysAs 5 (s7.1 59 34) v2 s7).bind fun q8 => (f_M_deniesAs 5 (q8.2.1 59 34) (1 : Int32) q8.2).bind fun q9 => some ((q8.1 - q9.1), q9.2)
theorem co_M_tellsAs (D : Nat) (hD : 16 ≤ D) (ktellsAs : Int32 → Int32 → gS → Option (Int32 × gS)) (hktellsAs : ∀ (d : Nat) (_ : D ≤ d) (v1 : Int32) (v2 : Int32) (σ : gS), C wI d m_M_tellsAs [.ref 59, .int v1, .int v2] σ (ktellsAs v1 v2 σ)) (d : Nat) (hd : D + 1 ≤ d) (v1 : Int32) (v2 : Int32) (σ : gS) : C wI d m_M_tellsAs [.ref 59, .int v1, .int v2] σ (fo_M_tellsAs ktellsAs v1 v2 σ) := by
  unfold fo_M_tellsAs
  refine C.of (by decide +kernel) (Nat.le_of_ble_eq_true rfl) (L := [some (.ref 59), some (.int v1), some (.int v2), none]) rfl ?_
  refine S.of1 (pc2 := 1) (fun Q => g_iload_n d_M_tellsAs_0 rfl) ?_
  refine S.of1 (pc2 := 2) (fun Q => g_iconst (v := (5 : Int32)) d_M_tellsAs_1 (by decide)) ?_
  refine S.br (c := v1 = (5 : Int32)) (t := 5) (e := 20) (fun Q kt kf => g_icmp_ne d_M_tellsAs_2 rfl kf kt) (fun h1 => ?_) (fun h1 => ?_)
  · refine S.of1 (pc2 := 6) (fun Q => g_aload_n d_M_tellsAs_5 rfl) ?_
    refine S.of1 (pc2 := 8) (fun Q => g_bipush (v := (60 : Int32)) d_M_tellsAs_6 (by decide)) ?_
    refine S.call_wV (pc3 := 11) rfl (c_M_runs (d - 1) (by omega) (60 : Int32) σ) (fun Q => g_callV (M2 := m_M_runs) (vs := [.int (60 : Int32)]) (st := []) lv_RX11_302 gk_59 rfl rfl (Nat.le_of_ble_eq_true rfl) (by omega) (Nat.le_of_ble_eq_true rfl) rfl d_M_tellsAs_8) (fun s2 => ?_)
    refine S.of1 (pc2 := 12) (fun Q => g_aload_n d_M_tellsAs_11 rfl) ?_
    refine S.of1 (pc2 := 13) (fun Q => g_iconst (v := (3 : Int32)) d_M_tellsAs_12 (by decide)) ?_
    refine S.of1 (pc2 := 14) (fun Q => g_iload_n d_M_tellsAs_13 rfl) ?_
    refine S.call_wI (pc3 := 17) rfl (hktellsAs (d - 1) (by omega) (3 : Int32) v2 s2) (fun Q => g_callV (M2 := m_M_tellsAs) (vs := [.int (3 : Int32), .int v2]) (st := []) lv_RX11_321 gk_59 rfl rfl (Nat.le_of_ble_eq_true rfl) (by omega) (Nat.le_of_ble_eq_true rfl) rfl d_M_tellsAs_14) (fun q3 => ?_)
    refine S.of1 (pc2 := 18) (fun Q => g_iconst (v := (5 : Int32)) d_M_tellsAs_17 (by decide)) ?_
    refine S.of1 (pc2 := 19) (fun Q => g_ixor d_M_tellsAs_18) ?_
    exact S.ret (fun Q hq => g_iret rfl d_M_tellsAs_19 hq)
  · refine S.of1 (pc2 := 21) (fun Q => g_iload_n d_M_tellsAs_20 rfl) ?_
    refine S.of1 (pc2 := 23) (fun Q => g_bipush (v := (7 : Int32)) d_M_tellsAs_21 (by decide)) ?_
    refine S.br (c := v1 = (7 : Int32)) (t := 26) (e := 41) (fun Q kt kf => g_icmp_ne d_M_tellsAs_23 rfl kf kt) (fun h4 => ?_) (fun h4 => ?_)
    · refine S.of1 (pc2 := 27) (fun Q => g_aload_n d_M_tellsAs_26 rfl) ?_
      refine S.of1 (pc2 := 29) (fun Q => g_bipush (v := (81 : Int32)) d_M_tellsAs_27 (by decide)) ?_
      refine S.call_wV (pc3 := 32) rfl (c_M_runs (d - 1) (by omega) (81 : Int32) σ) (fun Q => g_callV (M2 := m_M_runs) (vs := [.int (81 : Int32)]) (st := []) lv_RX11_302 gk_59 rfl rfl (Nat.le_of_ble_eq_true rfl) (by omega) (Nat.le_of_ble_eq_true rfl) rfl d_M_tellsAs_29) (fun s5 => ?_)
      refine S.of1 (pc2 := 33) (fun Q => g_aload_n d_M_tellsAs_32 rfl) ?_
      refine S.of1 (pc2 := 34) (fun Q => g_iconst (v := (4 : Int32)) d_M_tellsAs_33 (by decide)) ?_
      refine S.of1 (pc2 := 35) (fun Q => g_iload_n d_M_tellsAs_34 rfl) ?_
      refine S.call_wI (pc3 := 38) rfl (hktellsAs (d - 1) (by omega) (4 : Int32) v2 s5) (fun Q => g_callV (M2 := m_M_tellsAs) (vs := [.int (4 : Int32), .int v2]) (st := []) lv_RX11_321 gk_59 rfl rfl (Nat.le_of_ble_eq_true rfl) (by omega) (Nat.le_of_ble_eq_true rfl) rfl d_M_tellsAs_35) (fun q6 => ?_)
      refine S.of1 (pc2 := 39) (fun Q => g_iconst (v := (1 : Int32)) d_M_tellsAs_38 (by decide)) ?_
      refine S.of1 (pc2 := 40) (fun Q => g_isub d_M_tellsAs_39) ?_
      exact S.ret (fun Q hq => g_iret rfl d_M_tellsAs_40 hq)
    · refine S.of1 (pc2 := 42) (fun Q => g_aload_n d_M_tellsAs_41 rfl) ?_
      refine S.of1 (pc2 := 43) (fun Q => g_iconst (v := (2 : Int32)) d_M_tellsAs_42 (by decide)) ?_
      refine S.call_wV (pc3 := 46) rfl (c_M_runs (d - 1) (by omega) (2 : Int32) σ) (fun Q => g_callV (M2 := m_M_runs) (vs := [.int (2 : Int32)]) (st := []) lv_RX11_302 gk_59 rfl rfl (Nat.le_of_ble_eq_true rfl) (by omega) (Nat.le_of_ble_eq_true rfl) rfl d_M_tellsAs_43) (fun s7 => ?_)
      refine S.of1 (pc2 := 47) (fun Q => g_aload_n d_M_tellsAs_46 rfl) ?_
      refine S.of1 (pc2 := 48) (fun Q => g_aload_n d_M_tellsAs_47 rfl) ?_
      refine S.of1 (pc2 := 51) (fun Q => g_geti fl_RX11_315 gc_59_34 d_M_tellsAs_48) ?_
      refine S.of1 (pc2 := 52) (fun Q => g_iload_n d_M_tellsAs_51 rfl) ?_
      refine S.call_wI (pc3 := 55) rfl (c_M_saysAs 5 (d - 1) (by omega) (s7.1 59 34) v2 s7) (fun Q => g_callV (M2 := m_M_saysAs) (vs := [.int (s7.1 59 34), .int v2]) (st := []) lv_RX11_312 gk_59 rfl rfl (Nat.le_of_ble_eq_true rfl) (by omega) (Nat.le_of_ble_eq_true rfl) rfl d_M_tellsAs_52) (fun q8 => ?_)
      refine S.of1 (pc2 := 56) (L2 := [some (.ref 59), some (.int v1), some (.int v2), some (.int q8.1)]) (fun Q => g_istore_n d_M_tellsAs_55 (Nat.le_of_ble_eq_true rfl) rfl) ?_
      refine S.of1 (pc2 := 57) (fun Q => g_iload_n d_M_tellsAs_56 rfl) ?_
      refine S.of1 (pc2 := 58) (fun Q => g_aload_n d_M_tellsAs_57 rfl) ?_
      refine S.of1 (pc2 := 59) (fun Q => g_aload_n d_M_tellsAs_58 rfl) ?_
      refine S.of1 (pc2 := 62) (fun Q => g_geti fl_RX11_315 gc_59_34 d_M_tellsAs_59) ?_
      refine S.of1 (pc2 := 63) (fun Q => g_iconst (v := (1 : Int32)) d_M_tellsAs_62 (by decide)) ?_
      refine S.call_wI (pc3 := 66) rfl (c_M_deniesAs 5 (d - 1) (by omega) (q8.2.1 59 34) (1 : Int32) q8.2) (fun Q => g_callV (M2 := m_M_deniesAs) (vs := [.int (q8.2.1 59 34), .int (1 : Int32)]) (st := [.int q8.1]) lv_RX11_318 gk_59 rfl rfl (Nat.le_of_ble_eq_true rfl) (by omega) (Nat.le_of_ble_eq_true rfl) rfl d_M_tellsAs_63) (fun q9 => ?_)
      refine S.of1 (pc2 := 67) (fun Q => g_isub d_M_tellsAs_66) ?_
      exact S.ret (fun Q hq => g_iret rfl d_M_tellsAs_67 hq)
def f_M_tellsAs : Nat → Int32 → Int32 → gS → Option (Int32 × gS)
  | 0, _, _, _ => none
  | n + 1, v1, v2, σ => fo_M_tellsAs (fun v1 v2 σ => f_M_tellsAs n v1 v2 σ) v1 v2 σ
theorem c_M_tellsAs : ∀ (n d : Nat) (_ : 16 + 1 * n ≤ d) (v1 : Int32) (v2 : Int32) (σ : gS), C wI d m_M_tellsAs [.ref 59, .int v1, .int v2] σ (f_M_tellsAs n v1 v2 σ) := by
  intro n
  induction n with
  | zero =>
    intros
    unfold f_M_tellsAs
    intro a Q h1 _
    cases h1
  | succ n ih =>
    intro d hd v1 v2 σ
    unfold f_M_tellsAs
    exact co_M_tellsAs (16 + 1 * n) (by omega) _ (fun d hd v1 v2 σ => ih d hd v1 v2 σ) d (by omega) v1 v2 σ
def f_M_act (v1 : Int32) (v2 : Int32) (v3 : Int32) (σ : gS) : Option (Int32 × gS) :=
  gup (gpi σ 59 33 (0 : Int32)) fun s1 => (f_M_isBody v1 s1).bind fun q2 => if q2 = 0 then some ((0 : Int32), s1) else if gix v1 50 then gup (gpi s1 59 34 (s1.1 74 v1.toNatClampNeg)) fun s5 => gup (gpi s5 59 35 v1) fun s6 => if v2 = (0 : Int32) then (f_M_fallsAs 5 (s6.1 59 34) v3 s6).bind fun q8 => some (q8.1, q8.2) else if v2 = (1 : Int32) then (f_M_saysAs 5 (s6.1 59 34) v3 s6).bind fun q10 => some (q10.1, q10.2) else if v2 = (2 : Int32) then (f_M_deniesAs 5 (s6.1 59 34) v3 s6).bind fun q12 => some (q12.1, q12.2) else if v2 = (3 : Int32) then (f_M_tellsAs 5 (s6.1 59 34) v3 s6).bind fun q14 => some (q14.1, q14.2) else some ((0 : Int32), s6) else none
theorem c_M_act (d : Nat) (hd : 22 ≤ d) (v1 : Int32) (v2 : Int32) (v3 : Int32) (σ : gS) : C wI d m_M_act [.ref 59, .int v1, .int v2, .int v3] σ (f_M_act v1 v2 v3 σ) := by
  unfold f_M_act
  refine C.of (by decide +kernel) (Nat.le_of_ble_eq_true rfl) (L := [some (.ref 59), some (.int v1), some (.int v2), some (.int v3)]) rfl ?_
  refine S.of1 (pc2 := 1) (fun Q => g_aload_n d_M_act_0 rfl) ?_
  refine S.of1 (pc2 := 2) (fun Q => g_iconst (v := (0 : Int32)) d_M_act_1 (by decide)) ?_
  refine S.of1 (pc2 := 5) (fun Q => g_puti fl_RX11_299 gc_59_33 rfl rfl d_M_act_2) ?_
  refine S.gup (fun s1 => ?_)
  refine S.of1 (pc2 := 6) (fun Q => g_aload_n d_M_act_5 rfl) ?_
  refine S.of1 (pc2 := 7) (fun Q => g_iload_n d_M_act_6 rfl) ?_
  refine S.call_rI (pc3 := 10) rfl (c_M_isBody (d - 1) (by omega) v1 s1) (fun Q => g_callV (M2 := m_M_isBody) (vs := [.int v1]) (st := []) lv_RX11_324 gk_59 rfl rfl (Nat.le_of_ble_eq_true rfl) (by omega) (Nat.le_of_ble_eq_true rfl) rfl d_M_act_7) (fun q2 => ?_)
  refine S.br (c := q2 = 0) (t := 13) (e := 15) (fun Q kt kf => g_if_ne d_M_act_10 rfl kf kt) (fun h3 => ?_) (fun h3 => ?_)
  · refine S.of1 (pc2 := 14) (fun Q => g_iconst (v := (0 : Int32)) d_M_act_13 (by decide)) ?_
    exact S.ret (fun Q hq => g_iret rfl d_M_act_14 hq)
  · refine S.of1 (pc2 := 16) (fun Q => g_aload_n d_M_act_15 rfl) ?_
    refine S.of1 (pc2 := 17) (fun Q => g_aload_n d_M_act_16 rfl) ?_
    refine S.of1 (pc2 := 20) (fun Q => g_getr fl_RX11_52 gc_59_31 d_M_act_17) ?_
    refine S.of1 (pc2 := 21) (fun Q => g_iload_n d_M_act_20 rfl) ?_
    refine S.chk (fun h4 => ?_)
    refine S.of1 (pc2 := 22) (fun Q => g_iald ga_74 (gix_in h4) d_M_act_21) ?_
    refine S.of1 (pc2 := 25) (fun Q => g_puti fl_RX11_315 gc_59_34 rfl rfl d_M_act_22) ?_
    refine S.gup (fun s5 => ?_)
    refine S.of1 (pc2 := 26) (fun Q => g_aload_n d_M_act_25 rfl) ?_
    refine S.of1 (pc2 := 27) (fun Q => g_iload_n d_M_act_26 rfl) ?_
    refine S.of1 (pc2 := 30) (fun Q => g_puti fl_RX11_309 gc_59_35 rfl rfl d_M_act_27) ?_
    refine S.gup (fun s6 => ?_)
    refine S.of1 (pc2 := 31) (fun Q => g_iload_n d_M_act_30 rfl) ?_
    refine S.cs (c := v2 = (0 : Int32)) (fun h7 => ?_) (fun h7 => ?_)
    · refine S.of1 (pc2 := 60) (fun Q => g_tableIn (off := 29) d_M_act_31 (by rw [h7]; decide) (by rw [h7]; decide) (by rw [h7]; rfl) rfl) ?_
      refine S.of1 (pc2 := 61) (fun Q => g_aload_n d_M_act_60 rfl) ?_
      refine S.of1 (pc2 := 62) (fun Q => g_aload_n d_M_act_61 rfl) ?_
      refine S.of1 (pc2 := 65) (fun Q => g_geti fl_RX11_315 gc_59_34 d_M_act_62) ?_
      refine S.of1 (pc2 := 66) (fun Q => g_iload_n d_M_act_65 rfl) ?_
      refine S.call_wI (pc3 := 69) rfl (c_M_fallsAs 5 (d - 1) (by omega) (s6.1 59 34) v3 s6) (fun Q => g_callV (M2 := m_M_fallsAs) (vs := [.int (s6.1 59 34), .int v3]) (st := []) lv_RX11_306 gk_59 rfl rfl (Nat.le_of_ble_eq_true rfl) (by omega) (Nat.le_of_ble_eq_true rfl) rfl d_M_act_66) (fun q8 => ?_)
      exact S.ret (fun Q hq => g_iret rfl d_M_act_69 hq)
    · refine S.cs (c := v2 = (1 : Int32)) (fun h9 => ?_) (fun h9 => ?_)
      · refine S.of1 (pc2 := 70) (fun Q => g_tableIn (off := 39) d_M_act_31 (by rw [h9]; decide) (by rw [h9]; decide) (by rw [h9]; rfl) rfl) ?_
        refine S.of1 (pc2 := 71) (fun Q => g_aload_n d_M_act_70 rfl) ?_
        refine S.of1 (pc2 := 72) (fun Q => g_aload_n d_M_act_71 rfl) ?_
        refine S.of1 (pc2 := 75) (fun Q => g_geti fl_RX11_315 gc_59_34 d_M_act_72) ?_
        refine S.of1 (pc2 := 76) (fun Q => g_iload_n d_M_act_75 rfl) ?_
        refine S.call_wI (pc3 := 79) rfl (c_M_saysAs 5 (d - 1) (by omega) (s6.1 59 34) v3 s6) (fun Q => g_callV (M2 := m_M_saysAs) (vs := [.int (s6.1 59 34), .int v3]) (st := []) lv_RX11_312 gk_59 rfl rfl (Nat.le_of_ble_eq_true rfl) (by omega) (Nat.le_of_ble_eq_true rfl) rfl d_M_act_76) (fun q10 => ?_)
        exact S.ret (fun Q hq => g_iret rfl d_M_act_79 hq)
      · refine S.cs (c := v2 = (2 : Int32)) (fun h11 => ?_) (fun h11 => ?_)
        · refine S.of1 (pc2 := 80) (fun Q => g_tableIn (off := 49) d_M_act_31 (by rw [h11]; decide) (by rw [h11]; decide) (by rw [h11]; rfl) rfl) ?_
          refine S.of1 (pc2 := 81) (fun Q => g_aload_n d_M_act_80 rfl) ?_
          refine S.of1 (pc2 := 82) (fun Q => g_aload_n d_M_act_81 rfl) ?_
          refine S.of1 (pc2 := 85) (fun Q => g_geti fl_RX11_315 gc_59_34 d_M_act_82) ?_
          refine S.of1 (pc2 := 86) (fun Q => g_iload_n d_M_act_85 rfl) ?_
          refine S.call_wI (pc3 := 89) rfl (c_M_deniesAs 5 (d - 1) (by omega) (s6.1 59 34) v3 s6) (fun Q => g_callV (M2 := m_M_deniesAs) (vs := [.int (s6.1 59 34), .int v3]) (st := []) lv_RX11_318 gk_59 rfl rfl (Nat.le_of_ble_eq_true rfl) (by omega) (Nat.le_of_ble_eq_true rfl) rfl d_M_act_86) (fun q12 => ?_)
          exact S.ret (fun Q hq => g_iret rfl d_M_act_89 hq)
        · refine S.cs (c := v2 = (3 : Int32)) (fun h13 => ?_) (fun h13 => ?_)
          · refine S.of1 (pc2 := 90) (fun Q => g_tableIn (off := 59) d_M_act_31 (by rw [h13]; decide) (by rw [h13]; decide) (by rw [h13]; rfl) rfl) ?_
            refine S.of1 (pc2 := 91) (fun Q => g_aload_n d_M_act_90 rfl) ?_
            refine S.of1 (pc2 := 92) (fun Q => g_aload_n d_M_act_91 rfl) ?_
            refine S.of1 (pc2 := 95) (fun Q => g_geti fl_RX11_315 gc_59_34 d_M_act_92) ?_
            refine S.of1 (pc2 := 96) (fun Q => g_iload_n d_M_act_95 rfl) ?_
            refine S.call_wI (pc3 := 99) rfl (c_M_tellsAs 5 (d - 1) (by omega) (s6.1 59 34) v3 s6) (fun Q => g_callV (M2 := m_M_tellsAs) (vs := [.int (s6.1 59 34), .int v3]) (st := []) lv_RX11_321 gk_59 rfl rfl (Nat.le_of_ble_eq_true rfl) (by omega) (Nat.le_of_ble_eq_true rfl) rfl d_M_act_96) (fun q14 => ?_)
            exact S.ret (fun Q hq => g_iret rfl d_M_act_99 hq)
          · refine S.of1 (pc2 := 100) (fun Q => g_tableOut d_M_act_31 (by have a0 := lv_neT h7 (a := 0) (by decide); have a1 := lv_neT h9 (a := 1) (by decide); have a2 := lv_neT h11 (a := 2) (by decide); have a3 := lv_neT h13 (a := 3) (by decide); omega) rfl) ?_
            refine S.of1 (pc2 := 101) (fun Q => g_iconst (v := (0 : Int32)) d_M_act_100 (by decide)) ?_
            exact S.ret (fun Q hq => g_iret rfl d_M_act_101 hq)
def f_M_trace (v1 : Int32) (σ : gS) : Option Int32 :=
  if v1 < 0 then some (-1 : Int32) else if (σ.1 59 33) ≤ v1 then some (-1 : Int32) else if (24 : Int32) ≤ v1 then some (-1 : Int32) else if gix v1 24 then some (σ.1 75 v1.toNatClampNeg) else none
theorem c_M_trace (d : Nat) (hd : 1 ≤ d) (v1 : Int32) (σ : gS) : C (rI σ) d m_M_trace [.ref 59, .int v1] σ (f_M_trace v1 σ) := by
  unfold f_M_trace
  refine C.of (by decide +kernel) (Nat.le_of_ble_eq_true rfl) (L := [some (.ref 59), some (.int v1)]) rfl ?_
  refine S.of1 (pc2 := 1) (fun Q => g_iload_n d_M_trace_0 rfl) ?_
  refine S.br (c := v1 < 0) (t := 27) (e := 4) (fun Q kt kf => g_if_lt d_M_trace_1 rfl kt kf) (fun h1 => ?_) (fun h1 => ?_)
  · refine S.of1 (pc2 := 28) (fun Q => g_iconst (v := (-1 : Int32)) d_M_trace_27 (by decide)) ?_
    exact S.ret (fun Q hq => g_iret rfl d_M_trace_28 hq)
  · refine S.of1 (pc2 := 5) (fun Q => g_iload_n d_M_trace_4 rfl) ?_
    refine S.of1 (pc2 := 6) (fun Q => g_aload_n d_M_trace_5 rfl) ?_
    refine S.of1 (pc2 := 9) (fun Q => g_geti fl_RX11_299 gc_59_33 d_M_trace_6) ?_
    refine S.br (c := (σ.1 59 33) ≤ v1) (t := 27) (e := 12) (fun Q kt kf => g_icmp_ge d_M_trace_9 rfl kt kf) (fun h2 => ?_) (fun h2 => ?_)
    · refine S.of1 (pc2 := 28) (fun Q => g_iconst (v := (-1 : Int32)) d_M_trace_27 (by decide)) ?_
      exact S.ret (fun Q hq => g_iret rfl d_M_trace_28 hq)
    · refine S.of1 (pc2 := 13) (fun Q => g_iload_n d_M_trace_12 rfl) ?_
      refine S.of1 (pc2 := 15) (fun Q => g_bipush (v := (24 : Int32)) d_M_trace_13 (by decide)) ?_
      refine S.br (c := (24 : Int32) ≤ v1) (t := 27) (e := 18) (fun Q kt kf => g_icmp_ge d_M_trace_15 rfl kt kf) (fun h3 => ?_) (fun h3 => ?_)
      · refine S.of1 (pc2 := 28) (fun Q => g_iconst (v := (-1 : Int32)) d_M_trace_27 (by decide)) ?_
        exact S.ret (fun Q hq => g_iret rfl d_M_trace_28 hq)
      · refine S.of1 (pc2 := 19) (fun Q => g_aload_n d_M_trace_18 rfl) ?_
        refine S.of1 (pc2 := 22) (fun Q => g_getr fl_RX11_55 gc_59_32 d_M_trace_19) ?_
        refine S.of1 (pc2 := 23) (fun Q => g_iload_n d_M_trace_22 rfl) ?_
        refine S.chk (fun h4 => ?_)
        refine S.of1 (pc2 := 24) (fun Q => g_iald ga_75 (gix_in h4) d_M_trace_23) ?_
        refine S.of1 (pc2 := 28) (fun Q => g_goto d_M_trace_24 rfl) ?_
        exact S.ret (fun Q hq => g_iret rfl d_M_trace_28 hq)
def f_M_keep_j22 (v1 : Int32) (v2 : Int32) (σ : gS) : Option (Int32 × gS) :=
  if gix v1 6 then gup (gpi σ 76 v1.toNatClampNeg v2) fun s5 => if gix v1 6 then gup (gpi s5 77 v1.toNatClampNeg (0 : Int32)) fun s7 => some ((1 : Int32), s7) else none else none
theorem s_M_keep_j22 (d : Nat) (hd : 3 ≤ d) (v1 : Int32) (v2 : Int32) (σ : gS) : S wI m_M_keep d 22 [some (.ref 59), some (.int v1), some (.int v2)] [] σ (f_M_keep_j22 v1 v2 σ) := by
  unfold f_M_keep_j22
  refine S.of1 (pc2 := 23) (fun Q => g_aload_n d_M_keep_22 rfl) ?_
  refine S.of1 (pc2 := 26) (fun Q => g_getr fl_RX11_58 gc_59_36 d_M_keep_23) ?_
  refine S.of1 (pc2 := 27) (fun Q => g_iload_n d_M_keep_26 rfl) ?_
  refine S.of1 (pc2 := 28) (fun Q => g_iload_n d_M_keep_27 rfl) ?_
  refine S.chk (fun h4 => ?_)
  refine S.of1 (pc2 := 29) (fun Q => g_iast ga_76 (gix_in h4) d_M_keep_28) ?_
  refine S.gup (fun s5 => ?_)
  refine S.of1 (pc2 := 30) (fun Q => g_aload_n d_M_keep_29 rfl) ?_
  refine S.of1 (pc2 := 33) (fun Q => g_getr fl_RX11_61 gc_59_37 d_M_keep_30) ?_
  refine S.of1 (pc2 := 34) (fun Q => g_iload_n d_M_keep_33 rfl) ?_
  refine S.of1 (pc2 := 35) (fun Q => g_iconst (v := (0 : Int32)) d_M_keep_34 (by decide)) ?_
  refine S.chk (fun h6 => ?_)
  refine S.of1 (pc2 := 36) (fun Q => g_iast ga_77 (gix_in h6) d_M_keep_35) ?_
  refine S.gup (fun s7 => ?_)
  refine S.of1 (pc2 := 37) (fun Q => g_iconst (v := (1 : Int32)) d_M_keep_36 (by decide)) ?_
  exact S.ret (fun Q hq => g_iret rfl d_M_keep_37 hq)
def f_M_keep (v1 : Int32) (v2 : Int32) (σ : gS) : Option (Int32 × gS) :=
  (f_M_isShelf v1).bind fun q1 => if q1 = 0 then some ((-1 : Int32), σ) else if v2 = (-1 : Int32) then f_M_keep_j22 v1 v2 σ else (f_M_isBody v2 σ).bind fun q8 => if q8 = 0 then some ((-1 : Int32), σ) else f_M_keep_j22 v1 v2 σ
theorem c_M_keep (d : Nat) (hd : 3 ≤ d) (v1 : Int32) (v2 : Int32) (σ : gS) : C wI d m_M_keep [.ref 59, .int v1, .int v2] σ (f_M_keep v1 v2 σ) := by
  unfold f_M_keep
  refine C.of (by decide +kernel) (Nat.le_of_ble_eq_true rfl) (L := [some (.ref 59), some (.int v1), some (.int v2)]) rfl ?_
  refine S.of1 (pc2 := 1) (fun Q => g_iload_n d_M_keep_0 rfl) ?_
  refine S.call_rI (pc3 := 4) rfl (c_M_isShelf (d - 1) (by omega) v1 σ) (fun Q => g_callS (M2 := m_M_isShelf) (vs := [.int v1]) (st := []) ls_RX11_103 rfl (Nat.le_of_ble_eq_true rfl) (by omega) (Nat.le_of_ble_eq_true rfl) rfl d_M_keep_1) (fun q1 => ?_)
  refine S.br (c := q1 = 0) (t := 20) (e := 7) (fun Q kt kf => g_if_eq d_M_keep_4 rfl kt kf) (fun h2 => ?_) (fun h2 => ?_)
  · refine S.of1 (pc2 := 21) (fun Q => g_iconst (v := (-1 : Int32)) d_M_keep_20 (by decide)) ?_
    exact S.ret (fun Q hq => g_iret rfl d_M_keep_21 hq)
  · refine S.of1 (pc2 := 8) (fun Q => g_iload_n d_M_keep_7 rfl) ?_
    refine S.of1 (pc2 := 9) (fun Q => g_iconst (v := (-1 : Int32)) d_M_keep_8 (by decide)) ?_
    refine S.br (c := v2 = (-1 : Int32)) (t := 22) (e := 12) (fun Q kt kf => g_icmp_eq d_M_keep_9 rfl kt kf) (fun h3 => ?_) (fun h3 => ?_)
    · exact S.wk (L2 := [some (.ref 59), some (.int v1), some (.int v2)]) (And.intro rfl (And.intro rfl (And.intro rfl trivial))) (s_M_keep_j22 d hd v1 v2 σ)
    · refine S.of1 (pc2 := 13) (fun Q => g_aload_n d_M_keep_12 rfl) ?_
      refine S.of1 (pc2 := 14) (fun Q => g_iload_n d_M_keep_13 rfl) ?_
      refine S.call_rI (pc3 := 17) rfl (c_M_isBody (d - 1) (by omega) v2 σ) (fun Q => g_callV (M2 := m_M_isBody) (vs := [.int v2]) (st := []) lv_RX11_324 gk_59 rfl rfl (Nat.le_of_ble_eq_true rfl) (by omega) (Nat.le_of_ble_eq_true rfl) rfl d_M_keep_14) (fun q8 => ?_)
      refine S.br (c := q8 = 0) (t := 20) (e := 22) (fun Q kt kf => g_if_ne d_M_keep_17 rfl kf kt) (fun h9 => ?_) (fun h9 => ?_)
      · refine S.of1 (pc2 := 21) (fun Q => g_iconst (v := (-1 : Int32)) d_M_keep_20 (by decide)) ?_
        exact S.ret (fun Q hq => g_iret rfl d_M_keep_21 hq)
      · exact S.wk (L2 := [some (.ref 59), some (.int v1), some (.int v2)]) (And.intro rfl (And.intro rfl (And.intro rfl trivial))) (s_M_keep_j22 d hd v1 v2 σ)
def f_M_row_L57 : Nat → Int32 → Int32 → gS → Option (Int32 × gS)
  | 0, _, _, _ => none
  | n + 1, v1, v4, σ =>
  if (((60 : Int32) * v1) + (60 : Int32)) ≤ v4 then some ((1 : Int32), σ) else if gix v4 360 then gup (gpl σ 78 v4.toNatClampNeg (0 : Int64)) fun s14 => (fun v1 v4 σ => f_M_row_L57 n v1 v4 σ) v1 (v4 + (1 : Int32)) s14 else none
theorem s_M_row_L57 (d : Nat) (hd : 3 ≤ d) : ∀ (n : Nat) (v1 : Int32) (v4 : Int32) (σ : gS), S wI m_M_row d 57 [some (.ref 59), some (.int v1), none, none, some (.int v4)] [] σ (f_M_row_L57 n v1 v4 σ) := by
  intro n
  induction n with
  | zero =>
    intros
    unfold f_M_row_L57
    exact S.no
  | succ n ih =>
    intro v1 v4 σ
    unfold f_M_row_L57
    refine S.of1 (pc2 := 59) (fun Q => g_iload d_M_row_57 rfl) ?_
    refine S.of1 (pc2 := 61) (fun Q => g_bipush (v := (60 : Int32)) d_M_row_59 (by decide)) ?_
    refine S.of1 (pc2 := 62) (fun Q => g_iload_n d_M_row_61 rfl) ?_
    refine S.of1 (pc2 := 63) (fun Q => g_imul d_M_row_62) ?_
    refine S.of1 (pc2 := 65) (fun Q => g_bipush (v := (60 : Int32)) d_M_row_63 (by decide)) ?_
    refine S.of1 (pc2 := 66) (fun Q => g_iadd d_M_row_65) ?_
    refine S.br (c := (((60 : Int32) * v1) + (60 : Int32)) ≤ v4) (t := 83) (e := 69) (fun Q kt kf => g_icmp_ge d_M_row_66 rfl kt kf) (fun h12 => ?_) (fun h12 => ?_)
    · refine S.of1 (pc2 := 84) (fun Q => g_iconst (v := (1 : Int32)) d_M_row_83 (by decide)) ?_
      exact S.ret (fun Q hq => g_iret rfl d_M_row_84 hq)
    · refine S.of1 (pc2 := 70) (fun Q => g_aload_n d_M_row_69 rfl) ?_
      refine S.of1 (pc2 := 73) (fun Q => g_getr fl_RX11_64 gc_59_38 d_M_row_70) ?_
      refine S.of1 (pc2 := 75) (fun Q => g_iload d_M_row_73 rfl) ?_
      refine S.of1 (pc2 := 76) (fun Q => g_lconst (v := (0 : Int64)) d_M_row_75 (by decide)) ?_
      refine S.chk (fun h13 => ?_)
      refine S.of1 (pc2 := 77) (fun Q => g_last ga_78 (gix_in h13) d_M_row_76) ?_
      refine S.gup (fun s14 => ?_)
      refine S.of1 (pc2 := 80) (L2 := [some (.ref 59), some (.int v1), none, none, some (.int (v4 + (1 : Int32)))]) (fun Q => g_iinc d_M_row_77 rfl (congrArg (fun z => v4 + z) (by decide)) (Nat.le_of_ble_eq_true rfl) rfl) ?_
      refine S.of1 (pc2 := 57) (fun Q => g_goto d_M_row_80 rfl) ?_
      exact S.wk (L2 := [some (.ref 59), some (.int v1), none, none, some (.int (v4 + (1 : Int32)))]) (And.intro rfl (And.intro rfl (And.intro rfl trivial))) (ih v1 (v4 + (1 : Int32)) s14)
def f_M_row (v1 : Int32) (v2 : Int32) (v3 : Int32) (σ : gS) : Option (Int32 × gS) :=
  (f_M_isShelf v1).bind fun q1 => if q1 = 0 then some ((-1 : Int32), σ) else (f_M_within (v2.toInt64) (0 : Int64) (4 : Int64)).bind fun q3 => if q3 = 0 then some ((-1 : Int32), σ) else if v3 ≤ (60 : Int32) then if 0 ≤ v3 then if gix v1 6 then gup (gpi σ 76 v1.toNatClampNeg ((50 : Int32) + v2)) fun s8 => if gix v1 6 then gup (gpi s8 77 v1.toNatClampNeg v3) fun s10 => glt ((60 : Int32) * v1) fun x11 => f_M_row_L57 gfu v1 x11 s10 else none else none else some ((-14 : Int32), σ) else some ((-1 : Int32), σ)
theorem c_M_row (d : Nat) (hd : 3 ≤ d) (v1 : Int32) (v2 : Int32) (v3 : Int32) (σ : gS) : C wI d m_M_row [.ref 59, .int v1, .int v2, .int v3] σ (f_M_row v1 v2 v3 σ) := by
  unfold f_M_row
  refine C.of (by decide +kernel) (Nat.le_of_ble_eq_true rfl) (L := [some (.ref 59), some (.int v1), some (.int v2), some (.int v3), none]) rfl ?_
  refine S.of1 (pc2 := 1) (fun Q => g_iload_n d_M_row_0 rfl) ?_
  refine S.call_rI (pc3 := 4) rfl (c_M_isShelf (d - 1) (by omega) v1 σ) (fun Q => g_callS (M2 := m_M_isShelf) (vs := [.int v1]) (st := []) ls_RX11_103 rfl (Nat.le_of_ble_eq_true rfl) (by omega) (Nat.le_of_ble_eq_true rfl) rfl d_M_row_1) (fun q1 => ?_)
  refine S.br (c := q1 = 0) (t := 25) (e := 7) (fun Q kt kf => g_if_eq d_M_row_4 rfl kt kf) (fun h2 => ?_) (fun h2 => ?_)
  · refine S.of1 (pc2 := 26) (fun Q => g_iconst (v := (-1 : Int32)) d_M_row_25 (by decide)) ?_
    exact S.ret (fun Q hq => g_iret rfl d_M_row_26 hq)
  · refine S.of1 (pc2 := 8) (fun Q => g_iload_n d_M_row_7 rfl) ?_
    refine S.of1 (pc2 := 9) (fun Q => g_i2l d_M_row_8) ?_
    refine S.of1 (pc2 := 10) (fun Q => g_lconst (v := (0 : Int64)) d_M_row_9 (by decide)) ?_
    refine S.of1 (pc2 := 13) (fun Q => g_ldc2 (v := (4 : Int64)) d_M_row_10 w_1303) ?_
    refine S.call_rI (pc3 := 16) rfl (c_M_within (d - 1) (by omega) (v2.toInt64) (0 : Int64) (4 : Int64) σ) (fun Q => g_callS (M2 := m_M_within) (vs := [.long (v2.toInt64), .long (0 : Int64), .long (4 : Int64)]) (st := []) ls_RX11_84 rfl (Nat.le_of_ble_eq_true rfl) (by omega) (Nat.le_of_ble_eq_true rfl) rfl d_M_row_13) (fun q3 => ?_)
    refine S.br (c := q3 = 0) (t := 25) (e := 19) (fun Q kt kf => g_if_eq d_M_row_16 rfl kt kf) (fun h4 => ?_) (fun h4 => ?_)
    · refine S.of1 (pc2 := 26) (fun Q => g_iconst (v := (-1 : Int32)) d_M_row_25 (by decide)) ?_
      exact S.ret (fun Q hq => g_iret rfl d_M_row_26 hq)
    · refine S.of1 (pc2 := 20) (fun Q => g_iload_n d_M_row_19 rfl) ?_
      refine S.of1 (pc2 := 22) (fun Q => g_bipush (v := (60 : Int32)) d_M_row_20 (by decide)) ?_
      refine S.br (c := v3 ≤ (60 : Int32)) (t := 27) (e := 25) (fun Q kt kf => g_icmp_le d_M_row_22 rfl kt kf) (fun h5 => ?_) (fun h5 => ?_)
      · refine S.of1 (pc2 := 28) (fun Q => g_iload_n d_M_row_27 rfl) ?_
        refine S.br (c := 0 ≤ v3) (t := 34) (e := 31) (fun Q kt kf => g_if_ge d_M_row_28 rfl kt kf) (fun h6 => ?_) (fun h6 => ?_)
        · refine S.of1 (pc2 := 35) (fun Q => g_aload_n d_M_row_34 rfl) ?_
          refine S.of1 (pc2 := 38) (fun Q => g_getr fl_RX11_58 gc_59_36 d_M_row_35) ?_
          refine S.of1 (pc2 := 39) (fun Q => g_iload_n d_M_row_38 rfl) ?_
          refine S.of1 (pc2 := 41) (fun Q => g_bipush (v := (50 : Int32)) d_M_row_39 (by decide)) ?_
          refine S.of1 (pc2 := 42) (fun Q => g_iload_n d_M_row_41 rfl) ?_
          refine S.of1 (pc2 := 43) (fun Q => g_iadd d_M_row_42) ?_
          refine S.chk (fun h7 => ?_)
          refine S.of1 (pc2 := 44) (fun Q => g_iast ga_76 (gix_in h7) d_M_row_43) ?_
          refine S.gup (fun s8 => ?_)
          refine S.of1 (pc2 := 45) (fun Q => g_aload_n d_M_row_44 rfl) ?_
          refine S.of1 (pc2 := 48) (fun Q => g_getr fl_RX11_61 gc_59_37 d_M_row_45) ?_
          refine S.of1 (pc2 := 49) (fun Q => g_iload_n d_M_row_48 rfl) ?_
          refine S.of1 (pc2 := 50) (fun Q => g_iload_n d_M_row_49 rfl) ?_
          refine S.chk (fun h9 => ?_)
          refine S.of1 (pc2 := 51) (fun Q => g_iast ga_77 (gix_in h9) d_M_row_50) ?_
          refine S.gup (fun s10 => ?_)
          refine S.of1 (pc2 := 53) (fun Q => g_bipush (v := (60 : Int32)) d_M_row_51 (by decide)) ?_
          refine S.of1 (pc2 := 54) (fun Q => g_iload_n d_M_row_53 rfl) ?_
          refine S.of1 (pc2 := 55) (fun Q => g_imul d_M_row_54) ?_
          refine S.of1 (pc2 := 57) (L2 := [some (.ref 59), some (.int v1), some (.int v2), some (.int v3), some (.int ((60 : Int32) * v1))]) (fun Q => g_istore d_M_row_55 (Nat.le_of_ble_eq_true rfl) rfl) ?_
          refine S.glt (x := ((60 : Int32) * v1)) (Lf := fun y => [some (.ref 59), some (.int v1), some (.int v2), some (.int v3), some (.int y)]) (fun x11 => ?_)
          exact S.wk (L2 := [some (.ref 59), some (.int v1), none, none, some (.int x11)]) (And.intro rfl (And.intro rfl (And.intro rfl trivial))) (s_M_row_L57 d hd gfu v1 x11 s10)
        · refine S.of1 (pc2 := 33) (fun Q => g_bipush (v := (-14 : Int32)) d_M_row_31 (by decide)) ?_
          exact S.ret (fun Q hq => g_iret rfl d_M_row_33 hq)
      · refine S.of1 (pc2 := 26) (fun Q => g_iconst (v := (-1 : Int32)) d_M_row_25 (by decide)) ?_
        exact S.ret (fun Q hq => g_iret rfl d_M_row_26 hq)
def f_M_refusal (v1 : Int32) (v2 : Int32) (σ : gS) : Option Int32 :=
  (f_M_isShelf v1).bind fun q1 => if q1 = 0 then some (-1 : Int32) else if gix v1 6 then if 0 ≤ (σ.1 76 v1.toNatClampNeg) then if gix v1 6 then if (50 : Int32) ≤ (σ.1 76 v1.toNatClampNeg) then if v2 < 0 then some (-13 : Int32) else if gix v1 6 then if (σ.1 77 v1.toNatClampNeg) ≤ v2 then some (-13 : Int32) else some (0 : Int32) else none else some (-12 : Int32) else none else some (-11 : Int32) else none
theorem c_M_refusal (d : Nat) (hd : 3 ≤ d) (v1 : Int32) (v2 : Int32) (σ : gS) : C (rI σ) d m_M_refusal [.ref 59, .int v1, .int v2] σ (f_M_refusal v1 v2 σ) := by
  unfold f_M_refusal
  refine C.of (by decide +kernel) (Nat.le_of_ble_eq_true rfl) (L := [some (.ref 59), some (.int v1), some (.int v2)]) rfl ?_
  refine S.of1 (pc2 := 1) (fun Q => g_iload_n d_M_refusal_0 rfl) ?_
  refine S.call_rI (pc3 := 4) rfl (c_M_isShelf (d - 1) (by omega) v1 σ) (fun Q => g_callS (M2 := m_M_isShelf) (vs := [.int v1]) (st := []) ls_RX11_103 rfl (Nat.le_of_ble_eq_true rfl) (by omega) (Nat.le_of_ble_eq_true rfl) rfl d_M_refusal_1) (fun q1 => ?_)
  refine S.br (c := q1 = 0) (t := 7) (e := 9) (fun Q kt kf => g_if_ne d_M_refusal_4 rfl kf kt) (fun h2 => ?_) (fun h2 => ?_)
  · refine S.of1 (pc2 := 8) (fun Q => g_iconst (v := (-1 : Int32)) d_M_refusal_7 (by decide)) ?_
    exact S.ret (fun Q hq => g_iret rfl d_M_refusal_8 hq)
  · refine S.of1 (pc2 := 10) (fun Q => g_aload_n d_M_refusal_9 rfl) ?_
    refine S.of1 (pc2 := 13) (fun Q => g_getr fl_RX11_58 gc_59_36 d_M_refusal_10) ?_
    refine S.of1 (pc2 := 14) (fun Q => g_iload_n d_M_refusal_13 rfl) ?_
    refine S.chk (fun h3 => ?_)
    refine S.of1 (pc2 := 15) (fun Q => g_iald ga_76 (gix_in h3) d_M_refusal_14) ?_
    refine S.br (c := 0 ≤ (σ.1 76 v1.toNatClampNeg)) (t := 21) (e := 18) (fun Q kt kf => g_if_ge d_M_refusal_15 rfl kt kf) (fun h4 => ?_) (fun h4 => ?_)
    · refine S.of1 (pc2 := 22) (fun Q => g_aload_n d_M_refusal_21 rfl) ?_
      refine S.of1 (pc2 := 25) (fun Q => g_getr fl_RX11_58 gc_59_36 d_M_refusal_22) ?_
      refine S.of1 (pc2 := 26) (fun Q => g_iload_n d_M_refusal_25 rfl) ?_
      refine S.chk (fun h5 => ?_)
      refine S.of1 (pc2 := 27) (fun Q => g_iald ga_76 (gix_in h5) d_M_refusal_26) ?_
      refine S.of1 (pc2 := 29) (fun Q => g_bipush (v := (50 : Int32)) d_M_refusal_27 (by decide)) ?_
      refine S.br (c := (50 : Int32) ≤ (σ.1 76 v1.toNatClampNeg)) (t := 35) (e := 32) (fun Q kt kf => g_icmp_ge d_M_refusal_29 rfl kt kf) (fun h6 => ?_) (fun h6 => ?_)
      · refine S.of1 (pc2 := 36) (fun Q => g_iload_n d_M_refusal_35 rfl) ?_
        refine S.br (c := v2 < 0) (t := 53) (e := 39) (fun Q kt kf => g_if_lt d_M_refusal_36 rfl kt kf) (fun h7 => ?_) (fun h7 => ?_)
        · refine S.of1 (pc2 := 55) (fun Q => g_bipush (v := (-13 : Int32)) d_M_refusal_53 (by decide)) ?_
          exact S.ret (fun Q hq => g_iret rfl d_M_refusal_55 hq)
        · refine S.of1 (pc2 := 40) (fun Q => g_iload_n d_M_refusal_39 rfl) ?_
          refine S.of1 (pc2 := 41) (fun Q => g_aload_n d_M_refusal_40 rfl) ?_
          refine S.of1 (pc2 := 44) (fun Q => g_getr fl_RX11_61 gc_59_37 d_M_refusal_41) ?_
          refine S.of1 (pc2 := 45) (fun Q => g_iload_n d_M_refusal_44 rfl) ?_
          refine S.chk (fun h8 => ?_)
          refine S.of1 (pc2 := 46) (fun Q => g_iald ga_77 (gix_in h8) d_M_refusal_45) ?_
          refine S.br (c := (σ.1 77 v1.toNatClampNeg) ≤ v2) (t := 53) (e := 49) (fun Q kt kf => g_icmp_ge d_M_refusal_46 rfl kt kf) (fun h9 => ?_) (fun h9 => ?_)
          · refine S.of1 (pc2 := 55) (fun Q => g_bipush (v := (-13 : Int32)) d_M_refusal_53 (by decide)) ?_
            exact S.ret (fun Q hq => g_iret rfl d_M_refusal_55 hq)
          · refine S.of1 (pc2 := 50) (fun Q => g_iconst (v := (0 : Int32)) d_M_refusal_49 (by decide)) ?_
            refine S.of1 (pc2 := 55) (fun Q => g_goto d_M_refusal_50 rfl) ?_
            exact S.ret (fun Q hq => g_iret rfl d_M_refusal_55 hq)
      · refine S.of1 (pc2 := 34) (fun Q => g_bipush (v := (-12 : Int32)) d_M_refusal_32 (by decide)) ?_
        exact S.ret (fun Q hq => g_iret rfl d_M_refusal_34 hq)
    · refine S.of1 (pc2 := 20) (fun Q => g_bipush (v := (-11 : Int32)) d_M_refusal_18 (by decide)) ?_
      exact S.ret (fun Q hq => g_iret rfl d_M_refusal_20 hq)
def f_M_asSort (v0 : Int32) (v1 : Int64) : Option Int64 :=
  if v0 = 0 then some (((v1.toInt32).toInt8.toInt32).toInt64) else if v0 = (1 : Int32) then some (((v1.toInt32).toInt16.toInt32).toInt64) else if v0 = (2 : Int32) then some ((v1.toInt32).toInt64) else if v0 = (4 : Int32) then if (lg_cmp v1 (0 : Int64)) = 0 then some (0 : Int64) else some (1 : Int64) else some v1
theorem c_M_asSort (d : Nat) (hd : 1 ≤ d) (v0 : Int32) (v1 : Int64) (σ : gS) : C (rJ σ) d m_M_asSort [.int v0, .long v1] σ (f_M_asSort v0 v1) := by
  unfold f_M_asSort
  refine C.of (by decide +kernel) (Nat.le_of_ble_eq_true rfl) (L := [some (.int v0), some (.long v1), none]) rfl ?_
  refine S.of1 (pc2 := 1) (fun Q => g_iload_n d_M_asSort_0 rfl) ?_
  refine S.br (c := v0 = 0) (t := 4) (e := 11) (fun Q kt kf => g_if_ne d_M_asSort_1 rfl kf kt) (fun h1 => ?_) (fun h1 => ?_)
  · refine S.of1 (pc2 := 5) (fun Q => g_lload_n d_M_asSort_4 rfl) ?_
    refine S.of1 (pc2 := 6) (fun Q => g_l2i d_M_asSort_5) ?_
    refine S.of1 (pc2 := 7) (fun Q => g_i2b d_M_asSort_6) ?_
    refine S.of1 (pc2 := 8) (fun Q => g_i2l d_M_asSort_7) ?_
    refine S.of1 (pc2 := 54) (fun Q => g_goto d_M_asSort_8 rfl) ?_
    exact S.ret (fun Q hq => g_lret rfl d_M_asSort_54 hq)
  · refine S.of1 (pc2 := 12) (fun Q => g_iload_n d_M_asSort_11 rfl) ?_
    refine S.of1 (pc2 := 13) (fun Q => g_iconst (v := (1 : Int32)) d_M_asSort_12 (by decide)) ?_
    refine S.br (c := v0 = (1 : Int32)) (t := 16) (e := 23) (fun Q kt kf => g_icmp_ne d_M_asSort_13 rfl kf kt) (fun h2 => ?_) (fun h2 => ?_)
    · refine S.of1 (pc2 := 17) (fun Q => g_lload_n d_M_asSort_16 rfl) ?_
      refine S.of1 (pc2 := 18) (fun Q => g_l2i d_M_asSort_17) ?_
      refine S.of1 (pc2 := 19) (fun Q => g_i2s d_M_asSort_18) ?_
      refine S.of1 (pc2 := 20) (fun Q => g_i2l d_M_asSort_19) ?_
      refine S.of1 (pc2 := 54) (fun Q => g_goto d_M_asSort_20 rfl) ?_
      exact S.ret (fun Q hq => g_lret rfl d_M_asSort_54 hq)
    · refine S.of1 (pc2 := 24) (fun Q => g_iload_n d_M_asSort_23 rfl) ?_
      refine S.of1 (pc2 := 25) (fun Q => g_iconst (v := (2 : Int32)) d_M_asSort_24 (by decide)) ?_
      refine S.br (c := v0 = (2 : Int32)) (t := 28) (e := 34) (fun Q kt kf => g_icmp_ne d_M_asSort_25 rfl kf kt) (fun h3 => ?_) (fun h3 => ?_)
      · refine S.of1 (pc2 := 29) (fun Q => g_lload_n d_M_asSort_28 rfl) ?_
        refine S.of1 (pc2 := 30) (fun Q => g_l2i d_M_asSort_29) ?_
        refine S.of1 (pc2 := 31) (fun Q => g_i2l d_M_asSort_30) ?_
        refine S.of1 (pc2 := 54) (fun Q => g_goto d_M_asSort_31 rfl) ?_
        exact S.ret (fun Q hq => g_lret rfl d_M_asSort_54 hq)
      · refine S.of1 (pc2 := 35) (fun Q => g_iload_n d_M_asSort_34 rfl) ?_
        refine S.of1 (pc2 := 36) (fun Q => g_iconst (v := (4 : Int32)) d_M_asSort_35 (by decide)) ?_
        refine S.br (c := v0 = (4 : Int32)) (t := 39) (e := 53) (fun Q kt kf => g_icmp_ne d_M_asSort_36 rfl kf kt) (fun h4 => ?_) (fun h4 => ?_)
        · refine S.of1 (pc2 := 40) (fun Q => g_lload_n d_M_asSort_39 rfl) ?_
          refine S.of1 (pc2 := 41) (fun Q => g_lconst (v := (0 : Int64)) d_M_asSort_40 (by decide)) ?_
          refine S.of1 (pc2 := 42) (fun Q => g_lcmp d_M_asSort_41) ?_
          refine S.br (c := (lg_cmp v1 (0 : Int64)) = 0) (t := 49) (e := 45) (fun Q kt kf => g_if_eq d_M_asSort_42 rfl kt kf) (fun h5 => ?_) (fun h5 => ?_)
          · refine S.of1 (pc2 := 50) (fun Q => g_lconst (v := (0 : Int64)) d_M_asSort_49 (by decide)) ?_
            refine S.of1 (pc2 := 54) (fun Q => g_goto d_M_asSort_50 rfl) ?_
            exact S.ret (fun Q hq => g_lret rfl d_M_asSort_54 hq)
          · refine S.of1 (pc2 := 46) (fun Q => g_lconst (v := (1 : Int64)) d_M_asSort_45 (by decide)) ?_
            refine S.of1 (pc2 := 54) (fun Q => g_goto d_M_asSort_46 rfl) ?_
            exact S.ret (fun Q hq => g_lret rfl d_M_asSort_54 hq)
        · refine S.of1 (pc2 := 54) (fun Q => g_lload_n d_M_asSort_53 rfl) ?_
          exact S.ret (fun Q hq => g_lret rfl d_M_asSort_54 hq)
def f_M_put_j37 (v5 : Int32) (σ : gS) : Option (Int32 × gS) :=
  if v5 = 0 then some ((1 : Int32), σ) else some (v5, σ)
theorem s_M_put_j37 (d : Nat) (hd : 4 ≤ d) (v5 : Int32) (σ : gS) : S wI m_M_put d 37 [none, none, none, none, none, some (.int v5)] [] σ (f_M_put_j37 v5 σ) := by
  unfold f_M_put_j37
  refine S.of1 (pc2 := 39) (fun Q => g_iload d_M_put_37 rfl) ?_
  refine S.br (c := v5 = 0) (t := 42) (e := 46) (fun Q kt kf => g_if_ne d_M_put_39 rfl kf kt) (fun h7 => ?_) (fun h7 => ?_)
  · refine S.of1 (pc2 := 43) (fun Q => g_iconst (v := (1 : Int32)) d_M_put_42 (by decide)) ?_
    refine S.of1 (pc2 := 48) (fun Q => g_goto d_M_put_43 rfl) ?_
    exact S.ret (fun Q hq => g_iret rfl d_M_put_48 hq)
  · refine S.of1 (pc2 := 48) (fun Q => g_iload d_M_put_46 rfl) ?_
    exact S.ret (fun Q hq => g_iret rfl d_M_put_48 hq)
def f_M_put (v1 : Int32) (v2 : Int32) (v3 : Int64) (σ : gS) : Option (Int32 × gS) :=
  (f_M_refusal v1 v2 σ).bind fun q1 => if q1 = 0 then if gix v1 6 then (f_M_asSort ((σ.1 76 v1.toNatClampNeg) - (50 : Int32)) v3).bind fun q4 => if gix (((60 : Int32) * v1) + v2) 360 then gup (gpl σ 78 (((60 : Int32) * v1) + v2).toNatClampNeg q4) fun s6 => f_M_put_j37 q1 s6 else none else none else f_M_put_j37 q1 σ
theorem c_M_put (d : Nat) (hd : 4 ≤ d) (v1 : Int32) (v2 : Int32) (v3 : Int64) (σ : gS) : C wI d m_M_put [.ref 59, .int v1, .int v2, .long v3] σ (f_M_put v1 v2 v3 σ) := by
  unfold f_M_put
  refine C.of (by decide +kernel) (Nat.le_of_ble_eq_true rfl) (L := [some (.ref 59), some (.int v1), some (.int v2), some (.long v3), none, none]) rfl ?_
  refine S.of1 (pc2 := 1) (fun Q => g_aload_n d_M_put_0 rfl) ?_
  refine S.of1 (pc2 := 2) (fun Q => g_iload_n d_M_put_1 rfl) ?_
  refine S.of1 (pc2 := 3) (fun Q => g_iload_n d_M_put_2 rfl) ?_
  refine S.call_rI (pc3 := 6) rfl (c_M_refusal (d - 1) (by omega) v1 v2 σ) (fun Q => g_callV (M2 := m_M_refusal) (vs := [.int v1, .int v2]) (st := []) lv_RX11_327 gk_59 rfl rfl (Nat.le_of_ble_eq_true rfl) (by omega) (Nat.le_of_ble_eq_true rfl) rfl d_M_put_3) (fun q1 => ?_)
  refine S.of1 (pc2 := 8) (L2 := [some (.ref 59), some (.int v1), some (.int v2), some (.long v3), none, some (.int q1)]) (fun Q => g_istore d_M_put_6 (Nat.le_of_ble_eq_true rfl) rfl) ?_
  refine S.of1 (pc2 := 10) (fun Q => g_iload d_M_put_8 rfl) ?_
  refine S.br (c := q1 = 0) (t := 13) (e := 37) (fun Q kt kf => g_if_ne d_M_put_10 rfl kf kt) (fun h2 => ?_) (fun h2 => ?_)
  · refine S.of1 (pc2 := 14) (fun Q => g_aload_n d_M_put_13 rfl) ?_
    refine S.of1 (pc2 := 17) (fun Q => g_getr fl_RX11_64 gc_59_38 d_M_put_14) ?_
    refine S.of1 (pc2 := 19) (fun Q => g_bipush (v := (60 : Int32)) d_M_put_17 (by decide)) ?_
    refine S.of1 (pc2 := 20) (fun Q => g_iload_n d_M_put_19 rfl) ?_
    refine S.of1 (pc2 := 21) (fun Q => g_imul d_M_put_20) ?_
    refine S.of1 (pc2 := 22) (fun Q => g_iload_n d_M_put_21 rfl) ?_
    refine S.of1 (pc2 := 23) (fun Q => g_iadd d_M_put_22) ?_
    refine S.of1 (pc2 := 24) (fun Q => g_aload_n d_M_put_23 rfl) ?_
    refine S.of1 (pc2 := 27) (fun Q => g_getr fl_RX11_58 gc_59_36 d_M_put_24) ?_
    refine S.of1 (pc2 := 28) (fun Q => g_iload_n d_M_put_27 rfl) ?_
    refine S.chk (fun h3 => ?_)
    refine S.of1 (pc2 := 29) (fun Q => g_iald ga_76 (gix_in h3) d_M_put_28) ?_
    refine S.of1 (pc2 := 31) (fun Q => g_bipush (v := (50 : Int32)) d_M_put_29 (by decide)) ?_
    refine S.of1 (pc2 := 32) (fun Q => g_isub d_M_put_31) ?_
    refine S.of1 (pc2 := 33) (fun Q => g_lload_n d_M_put_32 rfl) ?_
    refine S.call_rJ (pc3 := 36) rfl (c_M_asSort (d - 1) (by omega) ((σ.1 76 v1.toNatClampNeg) - (50 : Int32)) v3 σ) (fun Q => g_callS (M2 := m_M_asSort) (vs := [.int ((σ.1 76 v1.toNatClampNeg) - (50 : Int32)), .long v3]) (st := [.int (((60 : Int32) * v1) + v2), .ref 78]) ls_RX11_330 rfl (Nat.le_of_ble_eq_true rfl) (by omega) (Nat.le_of_ble_eq_true rfl) rfl d_M_put_33) (fun q4 => ?_)
    refine S.chk (fun h5 => ?_)
    refine S.of1 (pc2 := 37) (fun Q => g_last ga_78 (gix_in h5) d_M_put_36) ?_
    refine S.gup (fun s6 => ?_)
    exact S.wk (L2 := [none, none, none, none, none, some (.int q1)]) (And.intro rfl trivial) (s_M_put_j37 d hd q1 s6)
  · exact S.wk (L2 := [none, none, none, none, none, some (.int q1)]) (And.intro rfl trivial) (s_M_put_j37 d hd q1 σ)
def f_M_element (v1 : Int32) (v2 : Int32) (σ : gS) : Option Int64 :=
  (f_M_refusal v1 v2 σ).bind fun q1 => if q1 = 0 then if gix (((60 : Int32) * v1) + v2) 360 then some (σ.2 78 (((60 : Int32) * v1) + v2).toNatClampNeg) else none else some (-9223372036854775808 : Int64)
theorem c_M_element (d : Nat) (hd : 4 ≤ d) (v1 : Int32) (v2 : Int32) (σ : gS) : C (rJ σ) d m_M_element [.ref 59, .int v1, .int v2] σ (f_M_element v1 v2 σ) := by
  unfold f_M_element
  refine C.of (by decide +kernel) (Nat.le_of_ble_eq_true rfl) (L := [some (.ref 59), some (.int v1), some (.int v2)]) rfl ?_
  refine S.of1 (pc2 := 1) (fun Q => g_aload_n d_M_element_0 rfl) ?_
  refine S.of1 (pc2 := 2) (fun Q => g_iload_n d_M_element_1 rfl) ?_
  refine S.of1 (pc2 := 3) (fun Q => g_iload_n d_M_element_2 rfl) ?_
  refine S.call_rI (pc3 := 6) rfl (c_M_refusal (d - 1) (by omega) v1 v2 σ) (fun Q => g_callV (M2 := m_M_refusal) (vs := [.int v1, .int v2]) (st := []) lv_RX11_327 gk_59 rfl rfl (Nat.le_of_ble_eq_true rfl) (by omega) (Nat.le_of_ble_eq_true rfl) rfl d_M_element_3) (fun q1 => ?_)
  refine S.br (c := q1 = 0) (t := 15) (e := 9) (fun Q kt kf => g_if_eq d_M_element_6 rfl kt kf) (fun h2 => ?_) (fun h2 => ?_)
  · refine S.of1 (pc2 := 16) (fun Q => g_aload_n d_M_element_15 rfl) ?_
    refine S.of1 (pc2 := 19) (fun Q => g_getr fl_RX11_64 gc_59_38 d_M_element_16) ?_
    refine S.of1 (pc2 := 21) (fun Q => g_bipush (v := (60 : Int32)) d_M_element_19 (by decide)) ?_
    refine S.of1 (pc2 := 22) (fun Q => g_iload_n d_M_element_21 rfl) ?_
    refine S.of1 (pc2 := 23) (fun Q => g_imul d_M_element_22) ?_
    refine S.of1 (pc2 := 24) (fun Q => g_iload_n d_M_element_23 rfl) ?_
    refine S.of1 (pc2 := 25) (fun Q => g_iadd d_M_element_24) ?_
    refine S.chk (fun h3 => ?_)
    refine S.of1 (pc2 := 26) (fun Q => g_lald ga_78 (gix_in h3) d_M_element_25) ?_
    exact S.ret (fun Q hq => g_lret rfl d_M_element_26 hq)
  · refine S.of1 (pc2 := 12) (fun Q => g_ldc2 (v := (-9223372036854775808 : Int64)) d_M_element_9 w_1477) ?_
    refine S.of1 (pc2 := 26) (fun Q => g_goto d_M_element_12 rfl) ?_
    exact S.ret (fun Q hq => g_lret rfl d_M_element_26 hq)
def f_M_shift_L150 : Nat → Int32 → Int32 → Int32 → Int32 → gS → Option (Int32 × gS)
  | 0, _, _, _, _, _ => none
  | n + 1, v3, v4, v5, v6, σ =>
  if v5 ≤ v6 then some (v5, σ) else if gix v6 60 then if gix ((((60 : Int32) * v3) + v4) + v6) 360 then gup (gpl σ 78 ((((60 : Int32) * v3) + v4) + v6).toNatClampNeg (σ.2 79 v6.toNatClampNeg)) fun s25 => (fun v3 v4 v5 v6 σ => f_M_shift_L150 n v3 v4 v5 v6 σ) v3 v4 v5 (v6 + (1 : Int32)) s25 else none else none
theorem s_M_shift_L150 (d : Nat) (hd : 3 ≤ d) : ∀ (n : Nat) (v3 : Int32) (v4 : Int32) (v5 : Int32) (v6 : Int32) (σ : gS), S wI m_M_shift d 150 [some (.ref 59), none, none, some (.int v3), some (.int v4), some (.int v5), some (.int v6)] [] σ (f_M_shift_L150 n v3 v4 v5 v6 σ) := by
  intro n
  induction n with
  | zero =>
    intros
    unfold f_M_shift_L150
    exact S.no
  | succ n ih =>
    intro v3 v4 v5 v6 σ
    unfold f_M_shift_L150
    refine S.of1 (pc2 := 152) (fun Q => g_iload d_M_shift_150 rfl) ?_
    refine S.of1 (pc2 := 154) (fun Q => g_iload d_M_shift_152 rfl) ?_
    refine S.br (c := v5 ≤ v6) (t := 185) (e := 157) (fun Q kt kf => g_icmp_ge d_M_shift_154 rfl kt kf) (fun h22 => ?_) (fun h22 => ?_)
    · refine S.of1 (pc2 := 187) (fun Q => g_iload d_M_shift_185 rfl) ?_
      exact S.ret (fun Q hq => g_iret rfl d_M_shift_187 hq)
    · refine S.of1 (pc2 := 158) (fun Q => g_aload_n d_M_shift_157 rfl) ?_
      refine S.of1 (pc2 := 161) (fun Q => g_getr fl_RX11_64 gc_59_38 d_M_shift_158) ?_
      refine S.of1 (pc2 := 163) (fun Q => g_bipush (v := (60 : Int32)) d_M_shift_161 (by decide)) ?_
      refine S.of1 (pc2 := 164) (fun Q => g_iload_n d_M_shift_163 rfl) ?_
      refine S.of1 (pc2 := 165) (fun Q => g_imul d_M_shift_164) ?_
      refine S.of1 (pc2 := 167) (fun Q => g_iload d_M_shift_165 rfl) ?_
      refine S.of1 (pc2 := 168) (fun Q => g_iadd d_M_shift_167) ?_
      refine S.of1 (pc2 := 170) (fun Q => g_iload d_M_shift_168 rfl) ?_
      refine S.of1 (pc2 := 171) (fun Q => g_iadd d_M_shift_170) ?_
      refine S.of1 (pc2 := 172) (fun Q => g_aload_n d_M_shift_171 rfl) ?_
      refine S.of1 (pc2 := 175) (fun Q => g_getr fl_RX11_68 gc_59_39 d_M_shift_172) ?_
      refine S.of1 (pc2 := 177) (fun Q => g_iload d_M_shift_175 rfl) ?_
      refine S.chk (fun h23 => ?_)
      refine S.of1 (pc2 := 178) (fun Q => g_lald ga_79 (gix_in h23) d_M_shift_177) ?_
      refine S.chk (fun h24 => ?_)
      refine S.of1 (pc2 := 179) (fun Q => g_last ga_78 (gix_in h24) d_M_shift_178) ?_
      refine S.gup (fun s25 => ?_)
      refine S.of1 (pc2 := 182) (L2 := [some (.ref 59), none, none, some (.int v3), some (.int v4), some (.int v5), some (.int (v6 + (1 : Int32)))]) (fun Q => g_iinc d_M_shift_179 rfl (congrArg (fun z => v6 + z) (by decide)) (Nat.le_of_ble_eq_true rfl) rfl) ?_
      refine S.of1 (pc2 := 150) (fun Q => g_goto d_M_shift_182 rfl) ?_
      exact S.wk (L2 := [some (.ref 59), none, none, some (.int v3), some (.int v4), some (.int v5), some (.int (v6 + (1 : Int32)))]) (And.intro rfl (And.intro rfl (And.intro rfl (And.intro rfl (And.intro rfl trivial))))) (ih v3 v4 v5 (v6 + (1 : Int32)) s25)
def f_M_shift_L113 : Nat → Int32 → Int32 → Int32 → Int32 → Int32 → Int32 → gS → Option (Int32 × gS)
  | 0, _, _, _, _, _, _, _ => none
  | n + 1, v1, v2, v3, v4, v5, v6, σ =>
  if v5 ≤ v6 then f_M_shift_L150 gfu v3 v4 v5 (0 : Int32) σ else if gix ((((60 : Int32) * v1) + v2) + v6) 360 then if gix v6 60 then gup (gpl σ 79 v6.toNatClampNeg (σ.2 78 ((((60 : Int32) * v1) + v2) + v6).toNatClampNeg)) fun s28 => (fun v1 v2 v3 v4 v5 v6 σ => f_M_shift_L113 n v1 v2 v3 v4 v5 v6 σ) v1 v2 v3 v4 v5 (v6 + (1 : Int32)) s28 else none else none
theorem s_M_shift_L113 (d : Nat) (hd : 3 ≤ d) : ∀ (n : Nat) (v1 : Int32) (v2 : Int32) (v3 : Int32) (v4 : Int32) (v5 : Int32) (v6 : Int32) (σ : gS), S wI m_M_shift d 113 [some (.ref 59), some (.int v1), some (.int v2), some (.int v3), some (.int v4), some (.int v5), some (.int v6)] [] σ (f_M_shift_L113 n v1 v2 v3 v4 v5 v6 σ) := by
  intro n
  induction n with
  | zero =>
    intros
    unfold f_M_shift_L113
    exact S.no
  | succ n ih =>
    intro v1 v2 v3 v4 v5 v6 σ
    unfold f_M_shift_L113
    refine S.of1 (pc2 := 115) (fun Q => g_iload d_M_shift_113 rfl) ?_
    refine S.of1 (pc2 := 117) (fun Q => g_iload d_M_shift_115 rfl) ?_
    refine S.br (c := v5 ≤ v6) (t := 147) (e := 120) (fun Q kt kf => g_icmp_ge d_M_shift_117 rfl kt kf) (fun h21 => ?_) (fun h21 => ?_)
    · refine S.of1 (pc2 := 148) (fun Q => g_iconst (v := (0 : Int32)) d_M_shift_147 (by decide)) ?_
      refine S.of1 (pc2 := 150) (L2 := [some (.ref 59), some (.int v1), some (.int v2), some (.int v3), some (.int v4), some (.int v5), some (.int (0 : Int32))]) (fun Q => g_istore d_M_shift_148 (Nat.le_of_ble_eq_true rfl) rfl) ?_
      exact S.wk (L2 := [some (.ref 59), none, none, some (.int v3), some (.int v4), some (.int v5), some (.int (0 : Int32))]) (And.intro rfl (And.intro rfl (And.intro rfl (And.intro rfl (And.intro rfl trivial))))) (s_M_shift_L150 d hd gfu v3 v4 v5 (0 : Int32) σ)
    · refine S.of1 (pc2 := 121) (fun Q => g_aload_n d_M_shift_120 rfl) ?_
      refine S.of1 (pc2 := 124) (fun Q => g_getr fl_RX11_68 gc_59_39 d_M_shift_121) ?_
      refine S.of1 (pc2 := 126) (fun Q => g_iload d_M_shift_124 rfl) ?_
      refine S.of1 (pc2 := 127) (fun Q => g_aload_n d_M_shift_126 rfl) ?_
      refine S.of1 (pc2 := 130) (fun Q => g_getr fl_RX11_64 gc_59_38 d_M_shift_127) ?_
      refine S.of1 (pc2 := 132) (fun Q => g_bipush (v := (60 : Int32)) d_M_shift_130 (by decide)) ?_
      refine S.of1 (pc2 := 133) (fun Q => g_iload_n d_M_shift_132 rfl) ?_
      refine S.of1 (pc2 := 134) (fun Q => g_imul d_M_shift_133) ?_
      refine S.of1 (pc2 := 135) (fun Q => g_iload_n d_M_shift_134 rfl) ?_
      refine S.of1 (pc2 := 136) (fun Q => g_iadd d_M_shift_135) ?_
      refine S.of1 (pc2 := 138) (fun Q => g_iload d_M_shift_136 rfl) ?_
      refine S.of1 (pc2 := 139) (fun Q => g_iadd d_M_shift_138) ?_
      refine S.chk (fun h26 => ?_)
      refine S.of1 (pc2 := 140) (fun Q => g_lald ga_78 (gix_in h26) d_M_shift_139) ?_
      refine S.chk (fun h27 => ?_)
      refine S.of1 (pc2 := 141) (fun Q => g_last ga_79 (gix_in h27) d_M_shift_140) ?_
      refine S.gup (fun s28 => ?_)
      refine S.of1 (pc2 := 144) (L2 := [some (.ref 59), some (.int v1), some (.int v2), some (.int v3), some (.int v4), some (.int v5), some (.int (v6 + (1 : Int32)))]) (fun Q => g_iinc d_M_shift_141 rfl (congrArg (fun z => v6 + z) (by decide)) (Nat.le_of_ble_eq_true rfl) rfl) ?_
      refine S.of1 (pc2 := 113) (fun Q => g_goto d_M_shift_144 rfl) ?_
      exact S.wk (L2 := [some (.ref 59), some (.int v1), some (.int v2), some (.int v3), some (.int v4), some (.int v5), some (.int (v6 + (1 : Int32)))]) (And.intro rfl (And.intro rfl (And.intro rfl (And.intro rfl (And.intro rfl (And.intro rfl (And.intro rfl trivial))))))) (ih v1 v2 v3 v4 v5 (v6 + (1 : Int32)) s28)
def f_M_shift (v1 : Int32) (v2 : Int32) (v3 : Int32) (v4 : Int32) (v5 : Int32) (σ : gS) : Option (Int32 × gS) :=
  (f_M_isShelf v1).bind fun q1 => if q1 = 0 then some ((-1 : Int32), σ) else (f_M_isShelf v3).bind fun q3 => if q3 = 0 then some ((-1 : Int32), σ) else if gix v1 6 then if (σ.1 76 v1.toNatClampNeg) < 0 then some ((-11 : Int32), σ) else if gix v3 6 then if 0 ≤ (σ.1 76 v3.toNatClampNeg) then if gix v1 6 then if (σ.1 76 v1.toNatClampNeg) < (50 : Int32) then some ((-12 : Int32), σ) else if gix v1 6 then if gix v3 6 then if (σ.1 76 v1.toNatClampNeg) = (σ.1 76 v3.toNatClampNeg) then if v5 < 0 then some ((-13 : Int32), σ) else if v2 < 0 then some ((-13 : Int32), σ) else if v4 < 0 then some ((-13 : Int32), σ) else if gix v1 6 then if ((σ.1 77 v1.toNatClampNeg) - v5) < v2 then some ((-13 : Int32), σ) else if gix v3 6 then if v4 ≤ ((σ.1 77 v3.toNatClampNeg) - v5) then f_M_shift_L113 gfu v1 v2 v3 v4 v5 (0 : Int32) σ else some ((-13 : Int32), σ) else none else none else some ((-12 : Int32), σ) else none else none else none else some ((-11 : Int32), σ) else none else none
theorem c_M_shift (d : Nat) (hd : 3 ≤ d) (v1 : Int32) (v2 : Int32) (v3 : Int32) (v4 : Int32) (v5 : Int32) (σ : gS) : C wI d m_M_shift [.ref 59, .int v1, .int v2, .int v3, .int v4, .int v5] σ (f_M_shift v1 v2 v3 v4 v5 σ) := by
  unfold f_M_shift
  refine C.of (by decide +kernel) (Nat.le_of_ble_eq_true rfl) (L := [some (.ref 59), some (.int v1), some (.int v2), some (.int v3), some (.int v4), some (.int v5), none]) rfl ?_
  refine S.of1 (pc2 := 1) (fun Q => g_iload_n d_M_shift_0 rfl) ?_
  refine S.call_rI (pc3 := 4) rfl (c_M_isShelf (d - 1) (by omega) v1 σ) (fun Q => g_callS (M2 := m_M_isShelf) (vs := [.int v1]) (st := []) ls_RX11_103 rfl (Nat.le_of_ble_eq_true rfl) (by omega) (Nat.le_of_ble_eq_true rfl) rfl d_M_shift_1) (fun q1 => ?_)
  refine S.br (c := q1 = 0) (t := 14) (e := 7) (fun Q kt kf => g_if_eq d_M_shift_4 rfl kt kf) (fun h2 => ?_) (fun h2 => ?_)
  · refine S.of1 (pc2 := 15) (fun Q => g_iconst (v := (-1 : Int32)) d_M_shift_14 (by decide)) ?_
    exact S.ret (fun Q hq => g_iret rfl d_M_shift_15 hq)
  · refine S.of1 (pc2 := 8) (fun Q => g_iload_n d_M_shift_7 rfl) ?_
    refine S.call_rI (pc3 := 11) rfl (c_M_isShelf (d - 1) (by omega) v3 σ) (fun Q => g_callS (M2 := m_M_isShelf) (vs := [.int v3]) (st := []) ls_RX11_103 rfl (Nat.le_of_ble_eq_true rfl) (by omega) (Nat.le_of_ble_eq_true rfl) rfl d_M_shift_8) (fun q3 => ?_)
    refine S.br (c := q3 = 0) (t := 14) (e := 16) (fun Q kt kf => g_if_ne d_M_shift_11 rfl kf kt) (fun h4 => ?_) (fun h4 => ?_)
    · refine S.of1 (pc2 := 15) (fun Q => g_iconst (v := (-1 : Int32)) d_M_shift_14 (by decide)) ?_
      exact S.ret (fun Q hq => g_iret rfl d_M_shift_15 hq)
    · refine S.of1 (pc2 := 17) (fun Q => g_aload_n d_M_shift_16 rfl) ?_
      refine S.of1 (pc2 := 20) (fun Q => g_getr fl_RX11_58 gc_59_36 d_M_shift_17) ?_
      refine S.of1 (pc2 := 21) (fun Q => g_iload_n d_M_shift_20 rfl) ?_
      refine S.chk (fun h5 => ?_)
      refine S.of1 (pc2 := 22) (fun Q => g_iald ga_76 (gix_in h5) d_M_shift_21) ?_
      refine S.br (c := (σ.1 76 v1.toNatClampNeg) < 0) (t := 34) (e := 25) (fun Q kt kf => g_if_lt d_M_shift_22 rfl kt kf) (fun h6 => ?_) (fun h6 => ?_)
      · refine S.of1 (pc2 := 36) (fun Q => g_bipush (v := (-11 : Int32)) d_M_shift_34 (by decide)) ?_
        exact S.ret (fun Q hq => g_iret rfl d_M_shift_36 hq)
      · refine S.of1 (pc2 := 26) (fun Q => g_aload_n d_M_shift_25 rfl) ?_
        refine S.of1 (pc2 := 29) (fun Q => g_getr fl_RX11_58 gc_59_36 d_M_shift_26) ?_
        refine S.of1 (pc2 := 30) (fun Q => g_iload_n d_M_shift_29 rfl) ?_
        refine S.chk (fun h7 => ?_)
        refine S.of1 (pc2 := 31) (fun Q => g_iald ga_76 (gix_in h7) d_M_shift_30) ?_
        refine S.br (c := 0 ≤ (σ.1 76 v3.toNatClampNeg)) (t := 37) (e := 34) (fun Q kt kf => g_if_ge d_M_shift_31 rfl kt kf) (fun h8 => ?_) (fun h8 => ?_)
        · refine S.of1 (pc2 := 38) (fun Q => g_aload_n d_M_shift_37 rfl) ?_
          refine S.of1 (pc2 := 41) (fun Q => g_getr fl_RX11_58 gc_59_36 d_M_shift_38) ?_
          refine S.of1 (pc2 := 42) (fun Q => g_iload_n d_M_shift_41 rfl) ?_
          refine S.chk (fun h9 => ?_)
          refine S.of1 (pc2 := 43) (fun Q => g_iald ga_76 (gix_in h9) d_M_shift_42) ?_
          refine S.of1 (pc2 := 45) (fun Q => g_bipush (v := (50 : Int32)) d_M_shift_43 (by decide)) ?_
          refine S.br (c := (σ.1 76 v1.toNatClampNeg) < (50 : Int32)) (t := 63) (e := 48) (fun Q kt kf => g_icmp_lt d_M_shift_45 rfl kt kf) (fun h10 => ?_) (fun h10 => ?_)
          · refine S.of1 (pc2 := 65) (fun Q => g_bipush (v := (-12 : Int32)) d_M_shift_63 (by decide)) ?_
            exact S.ret (fun Q hq => g_iret rfl d_M_shift_65 hq)
          · refine S.of1 (pc2 := 49) (fun Q => g_aload_n d_M_shift_48 rfl) ?_
            refine S.of1 (pc2 := 52) (fun Q => g_getr fl_RX11_58 gc_59_36 d_M_shift_49) ?_
            refine S.of1 (pc2 := 53) (fun Q => g_iload_n d_M_shift_52 rfl) ?_
            refine S.chk (fun h11 => ?_)
            refine S.of1 (pc2 := 54) (fun Q => g_iald ga_76 (gix_in h11) d_M_shift_53) ?_
            refine S.of1 (pc2 := 55) (fun Q => g_aload_n d_M_shift_54 rfl) ?_
            refine S.of1 (pc2 := 58) (fun Q => g_getr fl_RX11_58 gc_59_36 d_M_shift_55) ?_
            refine S.of1 (pc2 := 59) (fun Q => g_iload_n d_M_shift_58 rfl) ?_
            refine S.chk (fun h12 => ?_)
            refine S.of1 (pc2 := 60) (fun Q => g_iald ga_76 (gix_in h12) d_M_shift_59) ?_
            refine S.br (c := (σ.1 76 v1.toNatClampNeg) = (σ.1 76 v3.toNatClampNeg)) (t := 66) (e := 63) (fun Q kt kf => g_icmp_eq d_M_shift_60 rfl kt kf) (fun h13 => ?_) (fun h13 => ?_)
            · refine S.of1 (pc2 := 68) (fun Q => g_iload d_M_shift_66 rfl) ?_
              refine S.br (c := v5 < 0) (t := 107) (e := 71) (fun Q kt kf => g_if_lt d_M_shift_68 rfl kt kf) (fun h14 => ?_) (fun h14 => ?_)
              · refine S.of1 (pc2 := 109) (fun Q => g_bipush (v := (-13 : Int32)) d_M_shift_107 (by decide)) ?_
                exact S.ret (fun Q hq => g_iret rfl d_M_shift_109 hq)
              · refine S.of1 (pc2 := 72) (fun Q => g_iload_n d_M_shift_71 rfl) ?_
                refine S.br (c := v2 < 0) (t := 107) (e := 75) (fun Q kt kf => g_if_lt d_M_shift_72 rfl kt kf) (fun h15 => ?_) (fun h15 => ?_)
                · refine S.of1 (pc2 := 109) (fun Q => g_bipush (v := (-13 : Int32)) d_M_shift_107 (by decide)) ?_
                  exact S.ret (fun Q hq => g_iret rfl d_M_shift_109 hq)
                · refine S.of1 (pc2 := 77) (fun Q => g_iload d_M_shift_75 rfl) ?_
                  refine S.br (c := v4 < 0) (t := 107) (e := 80) (fun Q kt kf => g_if_lt d_M_shift_77 rfl kt kf) (fun h16 => ?_) (fun h16 => ?_)
                  · refine S.of1 (pc2 := 109) (fun Q => g_bipush (v := (-13 : Int32)) d_M_shift_107 (by decide)) ?_
                    exact S.ret (fun Q hq => g_iret rfl d_M_shift_109 hq)
                  · refine S.of1 (pc2 := 81) (fun Q => g_iload_n d_M_shift_80 rfl) ?_
                    refine S.of1 (pc2 := 82) (fun Q => g_aload_n d_M_shift_81 rfl) ?_
                    refine S.of1 (pc2 := 85) (fun Q => g_getr fl_RX11_61 gc_59_37 d_M_shift_82) ?_
                    refine S.of1 (pc2 := 86) (fun Q => g_iload_n d_M_shift_85 rfl) ?_
                    refine S.chk (fun h17 => ?_)
                    refine S.of1 (pc2 := 87) (fun Q => g_iald ga_77 (gix_in h17) d_M_shift_86) ?_
                    refine S.of1 (pc2 := 89) (fun Q => g_iload d_M_shift_87 rfl) ?_
                    refine S.of1 (pc2 := 90) (fun Q => g_isub d_M_shift_89) ?_
                    refine S.br (c := ((σ.1 77 v1.toNatClampNeg) - v5) < v2) (t := 107) (e := 93) (fun Q kt kf => g_icmp_gt d_M_shift_90 rfl kt kf) (fun h18 => ?_) (fun h18 => ?_)
                    · refine S.of1 (pc2 := 109) (fun Q => g_bipush (v := (-13 : Int32)) d_M_shift_107 (by decide)) ?_
                      exact S.ret (fun Q hq => g_iret rfl d_M_shift_109 hq)
                    · refine S.of1 (pc2 := 95) (fun Q => g_iload d_M_shift_93 rfl) ?_
                      refine S.of1 (pc2 := 96) (fun Q => g_aload_n d_M_shift_95 rfl) ?_
                      refine S.of1 (pc2 := 99) (fun Q => g_getr fl_RX11_61 gc_59_37 d_M_shift_96) ?_
                      refine S.of1 (pc2 := 100) (fun Q => g_iload_n d_M_shift_99 rfl) ?_
                      refine S.chk (fun h19 => ?_)
                      refine S.of1 (pc2 := 101) (fun Q => g_iald ga_77 (gix_in h19) d_M_shift_100) ?_
                      refine S.of1 (pc2 := 103) (fun Q => g_iload d_M_shift_101 rfl) ?_
                      refine S.of1 (pc2 := 104) (fun Q => g_isub d_M_shift_103) ?_
                      refine S.br (c := v4 ≤ ((σ.1 77 v3.toNatClampNeg) - v5)) (t := 110) (e := 107) (fun Q kt kf => g_icmp_le d_M_shift_104 rfl kt kf) (fun h20 => ?_) (fun h20 => ?_)
                      · refine S.of1 (pc2 := 111) (fun Q => g_iconst (v := (0 : Int32)) d_M_shift_110 (by decide)) ?_
                        refine S.of1 (pc2 := 113) (L2 := [some (.ref 59), some (.int v1), some (.int v2), some (.int v3), some (.int v4), some (.int v5), some (.int (0 : Int32))]) (fun Q => g_istore d_M_shift_111 (Nat.le_of_ble_eq_true rfl) rfl) ?_
                        exact S.wk (L2 := [some (.ref 59), some (.int v1), some (.int v2), some (.int v3), some (.int v4), some (.int v5), some (.int (0 : Int32))]) (And.intro rfl (And.intro rfl (And.intro rfl (And.intro rfl (And.intro rfl (And.intro rfl (And.intro rfl trivial))))))) (s_M_shift_L113 d hd gfu v1 v2 v3 v4 v5 (0 : Int32) σ)
                      · refine S.of1 (pc2 := 109) (fun Q => g_bipush (v := (-13 : Int32)) d_M_shift_107 (by decide)) ?_
                        exact S.ret (fun Q hq => g_iret rfl d_M_shift_109 hq)
            · refine S.of1 (pc2 := 65) (fun Q => g_bipush (v := (-12 : Int32)) d_M_shift_63 (by decide)) ?_
              exact S.ret (fun Q hq => g_iret rfl d_M_shift_65 hq)
        · refine S.of1 (pc2 := 36) (fun Q => g_bipush (v := (-11 : Int32)) d_M_shift_34 (by decide)) ?_
          exact S.ret (fun Q hq => g_iret rfl d_M_shift_36 hq)
