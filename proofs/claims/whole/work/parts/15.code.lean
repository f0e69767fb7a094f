def f_M_payBoth_j179 (k69 : Int32 → Int32 → Int32 → Int32 → Int32 → Int32 → gS → Option (Int32 × gS)) (k79 : Int32 → Int32 → Int32 → Int32 → Int32 → Int32 → Int32 → gS → Option (Int32 × gS)) (v1 : Int32) (v2 : Int32) (v3 : Int32) (v4 : Int32) (v5 : Int32) (v6 : Int32) (v7 : Int32) (v8 : Int32) (v9 : Int32) (v10 : Int32) (v11 : Int32) (s0 : Int32) (σ : gS) : Option (Int32 × gS) :=
  if s0 = 0 then k79 v1 v2 v3 v4 v5 v6 (v7 + (1 : Int32)) σ else if gix v8 43 then if gix v9 43 then if (σ.1 60 v8.toNatClampNeg) = (σ.1 60 v9.toNatClampNeg) then k79 v1 v2 v3 v4 v5 v6 (v7 + (1 : Int32)) σ else if gix v10 43 then if gix v11 43 then if (σ.1 60 v10.toNatClampNeg) = (σ.1 60 v11.toNatClampNeg) then k79 v1 v2 v3 v4 v5 v6 (v7 + (1 : Int32)) σ else (f_M_costOf v8 (v1 / (10 : Int32)) σ).bind fun q27 => (f_M_costOf v9 (v1 / (10 : Int32)) σ).bind fun q28 => (f_M_costOf v10 (grem v1 (10 : Int32)) σ).bind fun q29 => (f_M_costOf v11 (grem v1 (10 : Int32)) σ).bind fun q30 => glt (((q27 + q28) + q29) + q30) fun x31 => if v3 ≤ x31 then k79 v1 v2 v3 v4 v5 v6 (v7 + (1 : Int32)) σ else k79 v1 v2 x31 v6 v7 v6 (v7 + (1 : Int32)) σ else none else none else none else none
theorem s_M_payBoth_j179 (d : Nat) (hd : 60 ≤ d) (k69 : Int32 → Int32 → Int32 → Int32 → Int32 → Int32 → gS → Option (Int32 × gS)) (hk69 : ∀ (v1 : Int32) (v2 : Int32) (v3 : Int32) (v4 : Int32) (v5 : Int32) (v6 : Int32) (τ : gS), S wI m_M_payBoth d 69 [some (.ref 59), some (.int v1), some (.int v2), some (.int v3), some (.int v4), some (.int v5), some (.int v6), none, none, none, none, none, none, none] [] τ (k69 v1 v2 v3 v4 v5 v6 τ)) (k79 : Int32 → Int32 → Int32 → Int32 → Int32 → Int32 → Int32 → gS → Option (Int32 × gS)) (hk79 : ∀ (v1 : Int32) (v2 : Int32) (v3 : Int32) (v4 : Int32) (v5 : Int32) (v6 : Int32) (v7 : Int32) (τ : gS), S wI m_M_payBoth d 79 [some (.ref 59), some (.int v1), some (.int v2), some (.int v3), some (.int v4), some (.int v5), some (.int v6), some (.int v7), none, none, none, none, none, none] [] τ (k79 v1 v2 v3 v4 v5 v6 v7 τ)) (v1 : Int32) (v2 : Int32) (v3 : Int32) (v4 : Int32) (v5 : Int32) (v6 : Int32) (v7 : Int32) (v8 : Int32) (v9 : Int32) (v10 : Int32) (v11 : Int32) (s0 : Int32) (σ : gS) : S wI m_M_payBoth d 179 [some (.ref 59), some (.int v1), some (.int v2), some (.int v3), some (.int v4), some (.int v5), some (.int v6), some (.int v7), some (.int v8), some (.int v9), some (.int v10), some (.int v11), none, none] [.int s0] σ (f_M_payBoth_j179 k69 k79 v1 v2 v3 v4 v5 v6 v7 v8 v9 v10 v11 s0 σ) := by
  unfold f_M_payBoth_j179
  refine S.of1 (pc2 := 181) (L2 := [some (.ref 59), some (.int v1), some (.int v2), some (.int v3), some (.int v4), some (.int v5), some (.int v6), some (.int v7), some (.int v8), some (.int v9), some (.int v10), some (.int v11), some (.int s0), none]) (fun Q => g_istore d_M_payBoth_179 (Nat.le_of_ble_eq_true rfl) rfl) ?_
  refine S.of1 (pc2 := 183) (fun Q => g_iload d_M_payBoth_181 rfl) ?_
  refine S.br (c := s0 = 0) (t := 282) (e := 186) (fun Q kt kf => g_if_eq d_M_payBoth_183 rfl kt kf) (fun h20 => ?_) (fun h20 => ?_)
  · refine S.of1 (pc2 := 285) (L2 := [some (.ref 59), some (.int v1), some (.int v2), some (.int v3), some (.int v4), some (.int v5), some (.int v6), some (.int (v7 + (1 : Int32))), some (.int v8), some (.int v9), some (.int v10), some (.int v11), some (.int s0), none]) (fun Q => g_iinc d_M_payBoth_282 rfl (congrArg (fun z => v7 + z) (by decide)) (Nat.le_of_ble_eq_true rfl) rfl) ?_
    refine S.of1 (pc2 := 79) (fun Q => g_goto d_M_payBoth_285 rfl) ?_
    exact S.wk (L2 := [some (.ref 59), some (.int v1), some (.int v2), some (.int v3), some (.int v4), some (.int v5), some (.int v6), some (.int (v7 + (1 : Int32))), none, none, none, none, none, none]) (And.intro rfl (And.intro rfl (And.intro rfl (And.intro rfl (And.intro rfl (And.intro rfl (And.intro rfl (And.intro rfl trivial)))))))) (hk79 v1 v2 v3 v4 v5 v6 (v7 + (1 : Int32)) σ)
  · refine S.of1 (pc2 := 187) (fun Q => g_aload_n d_M_payBoth_186 rfl) ?_
    refine S.of1 (pc2 := 190) (fun Q => g_getr fl_RX11_9 gc_59_0 d_M_payBoth_187) ?_
    refine S.of1 (pc2 := 192) (fun Q => g_iload d_M_payBoth_190 rfl) ?_
    refine S.chk (fun h21 => ?_)
    refine S.of1 (pc2 := 193) (fun Q => g_iald ga_60 (gix_in h21) d_M_payBoth_192) ?_
    refine S.of1 (pc2 := 194) (fun Q => g_aload_n d_M_payBoth_193 rfl) ?_
    refine S.of1 (pc2 := 197) (fun Q => g_getr fl_RX11_9 gc_59_0 d_M_payBoth_194) ?_
    refine S.of1 (pc2 := 199) (fun Q => g_iload d_M_payBoth_197 rfl) ?_
    refine S.chk (fun h22 => ?_)
    refine S.of1 (pc2 := 200) (fun Q => g_iald ga_60 (gix_in h22) d_M_payBoth_199) ?_
    refine S.br (c := (σ.1 60 v8.toNatClampNeg) = (σ.1 60 v9.toNatClampNeg)) (t := 282) (e := 203) (fun Q kt kf => g_icmp_eq d_M_payBoth_200 rfl kt kf) (fun h23 => ?_) (fun h23 => ?_)
    · refine S.of1 (pc2 := 285) (L2 := [some (.ref 59), some (.int v1), some (.int v2), some (.int v3), some (.int v4), some (.int v5), some (.int v6), some (.int (v7 + (1 : Int32))), some (.int v8), some (.int v9), some (.int v10), some (.int v11), some (.int s0), none]) (fun Q => g_iinc d_M_payBoth_282 rfl (congrArg (fun z => v7 + z) (by decide)) (Nat.le_of_ble_eq_true rfl) rfl) ?_
      refine S.of1 (pc2 := 79) (fun Q => g_goto d_M_payBoth_285 rfl) ?_
      exact S.wk (L2 := [some (.ref 59), some (.int v1), some (.int v2), some (.int v3), some (.int v4), some (.int v5), some (.int v6), some (.int (v7 + (1 : Int32))), none, none, none, none, none, none]) (And.intro rfl (And.intro rfl (And.intro rfl (And.intro rfl (And.intro rfl (And.intro rfl (And.intro rfl (And.intro rfl trivial)))))))) (hk79 v1 v2 v3 v4 v5 v6 (v7 + (1 : Int32)) σ)
    · refine S.of1 (pc2 := 204) (fun Q => g_aload_n d_M_payBoth_203 rfl) ?_
      refine S.of1 (pc2 := 207) (fun Q => g_getr fl_RX11_9 gc_59_0 d_M_payBoth_204) ?_
      refine S.of1 (pc2 := 209) (fun Q => g_iload d_M_payBoth_207 rfl) ?_
      refine S.chk (fun h24 => ?_)
      refine S.of1 (pc2 := 210) (fun Q => g_iald ga_60 (gix_in h24) d_M_payBoth_209) ?_
      refine S.of1 (pc2 := 211) (fun Q => g_aload_n d_M_payBoth_210 rfl) ?_
      refine S.of1 (pc2 := 214) (fun Q => g_getr fl_RX11_9 gc_59_0 d_M_payBoth_211) ?_
      refine S.of1 (pc2 := 216) (fun Q => g_iload d_M_payBoth_214 rfl) ?_
      refine S.chk (fun h25 => ?_)
      refine S.of1 (pc2 := 217) (fun Q => g_iald ga_60 (gix_in h25) d_M_payBoth_216) ?_
      refine S.br (c := (σ.1 60 v10.toNatClampNeg) = (σ.1 60 v11.toNatClampNeg)) (t := 282) (e := 220) (fun Q kt kf => g_icmp_eq d_M_payBoth_217 rfl kt kf) (fun h26 => ?_) (fun h26 => ?_)
      · refine S.of1 (pc2 := 285) (L2 := [some (.ref 59), some (.int v1), some (.int v2), some (.int v3), some (.int v4), some (.int v5), some (.int v6), some (.int (v7 + (1 : Int32))), some (.int v8), some (.int v9), some (.int v10), some (.int v11), some (.int s0), none]) (fun Q => g_iinc d_M_payBoth_282 rfl (congrArg (fun z => v7 + z) (by decide)) (Nat.le_of_ble_eq_true rfl) rfl) ?_
        refine S.of1 (pc2 := 79) (fun Q => g_goto d_M_payBoth_285 rfl) ?_
        exact S.wk (L2 := [some (.ref 59), some (.int v1), some (.int v2), some (.int v3), some (.int v4), some (.int v5), some (.int v6), some (.int (v7 + (1 : Int32))), none, none, none, none, none, none]) (And.intro rfl (And.intro rfl (And.intro rfl (And.intro rfl (And.intro rfl (And.intro rfl (And.intro rfl (And.intro rfl trivial)))))))) (hk79 v1 v2 v3 v4 v5 v6 (v7 + (1 : Int32)) σ)
      · refine S.of1 (pc2 := 221) (fun Q => g_aload_n d_M_payBoth_220 rfl) ?_
        refine S.of1 (pc2 := 223) (fun Q => g_iload d_M_payBoth_221 rfl) ?_
        refine S.of1 (pc2 := 224) (fun Q => g_iload_n d_M_payBoth_223 rfl) ?_
        refine S.of1 (pc2 := 226) (fun Q => g_bipush (v := (10 : Int32)) d_M_payBoth_224 (by decide)) ?_
        refine S.of1 (pc2 := 227) (fun Q => g_idiv d_M_payBoth_226 (by decide)) ?_
        refine S.call_rI (pc3 := 230) rfl (c_M_costOf (d - 1) (by omega) v8 (v1 / (10 : Int32)) σ) (fun Q => g_callV (M2 := m_M_costOf) (vs := [.int v8, .int (v1 / (10 : Int32))]) (st := []) lv_RX11_232 gk_59 rfl rfl (Nat.le_of_ble_eq_true rfl) (by omega) (Nat.le_of_ble_eq_true rfl) rfl d_M_payBoth_227) (fun q27 => ?_)
        refine S.of1 (pc2 := 231) (fun Q => g_aload_n d_M_payBoth_230 rfl) ?_
        refine S.of1 (pc2 := 233) (fun Q => g_iload d_M_payBoth_231 rfl) ?_
        refine S.of1 (pc2 := 234) (fun Q => g_iload_n d_M_payBoth_233 rfl) ?_
        refine S.of1 (pc2 := 236) (fun Q => g_bipush (v := (10 : Int32)) d_M_payBoth_234 (by decide)) ?_
        refine S.of1 (pc2 := 237) (fun Q => g_idiv d_M_payBoth_236 (by decide)) ?_
        refine S.call_rI (pc3 := 240) rfl (c_M_costOf (d - 1) (by omega) v9 (v1 / (10 : Int32)) σ) (fun Q => g_callV (M2 := m_M_costOf) (vs := [.int v9, .int (v1 / (10 : Int32))]) (st := [.int q27]) lv_RX11_232 gk_59 rfl rfl (Nat.le_of_ble_eq_true rfl) (by omega) (Nat.le_of_ble_eq_true rfl) rfl d_M_payBoth_237) (fun q28 => ?_)
        refine S.of1 (pc2 := 241) (fun Q => g_iadd d_M_payBoth_240) ?_
        refine S.of1 (pc2 := 242) (fun Q => g_aload_n d_M_payBoth_241 rfl) ?_
        refine S.of1 (pc2 := 244) (fun Q => g_iload d_M_payBoth_242 rfl) ?_
        refine S.of1 (pc2 := 245) (fun Q => g_iload_n d_M_payBoth_244 rfl) ?_
        refine S.of1 (pc2 := 247) (fun Q => g_bipush (v := (10 : Int32)) d_M_payBoth_245 (by decide)) ?_
        refine S.of1 (pc2 := 248) (fun Q => g_irem d_M_payBoth_247 (by decide)) ?_
        refine S.call_rI (pc3 := 251) rfl (c_M_costOf (d - 1) (by omega) v10 (grem v1 (10 : Int32)) σ) (fun Q => g_callV (M2 := m_M_costOf) (vs := [.int v10, .int (grem v1 (10 : Int32))]) (st := [.int (q27 + q28)]) lv_RX11_232 gk_59 rfl rfl (Nat.le_of_ble_eq_true rfl) (by omega) (Nat.le_of_ble_eq_true rfl) rfl d_M_payBoth_248) (fun q29 => ?_)
        refine S.of1 (pc2 := 252) (fun Q => g_iadd d_M_payBoth_251) ?_
        refine S.of1 (pc2 := 253) (fun Q => g_aload_n d_M_payBoth_252 rfl) ?_
        refine S.of1 (pc2 := 255) (fun Q => g_iload d_M_payBoth_253 rfl) ?_
        refine S.of1 (pc2 := 256) (fun Q => g_iload_n d_M_payBoth_255 rfl) ?_
        refine S.of1 (pc2 := 258) (fun Q => g_bipush (v := (10 : Int32)) d_M_payBoth_256 (by decide)) ?_
        refine S.of1 (pc2 := 259) (fun Q => g_irem d_M_payBoth_258 (by decide)) ?_
        refine S.call_rI (pc3 := 262) rfl (c_M_costOf (d - 1) (by omega) v11 (grem v1 (10 : Int32)) σ) (fun Q => g_callV (M2 := m_M_costOf) (vs := [.int v11, .int (grem v1 (10 : Int32))]) (st := [.int ((q27 + q28) + q29)]) lv_RX11_232 gk_59 rfl rfl (Nat.le_of_ble_eq_true rfl) (by omega) (Nat.le_of_ble_eq_true rfl) rfl d_M_payBoth_259) (fun q30 => ?_)
        refine S.of1 (pc2 := 263) (fun Q => g_iadd d_M_payBoth_262) ?_
        refine S.of1 (pc2 := 265) (L2 := [some (.ref 59), some (.int v1), some (.int v2), some (.int v3), some (.int v4), some (.int v5), some (.int v6), some (.int v7), some (.int v8), some (.int v9), some (.int v10), some (.int v11), some (.int s0), some (.int (((q27 + q28) + q29) + q30))]) (fun Q => g_istore d_M_payBoth_263 (Nat.le_of_ble_eq_true rfl) rfl) ?_
        refine S.glt (x := (((q27 + q28) + q29) + q30)) (Lf := fun y => [some (.ref 59), some (.int v1), some (.int v2), some (.int v3), some (.int v4), some (.int v5), some (.int v6), some (.int v7), some (.int v8), some (.int v9), some (.int v10), some (.int v11), some (.int s0), some (.int y)]) (fun x31 => ?_)
        refine S.of1 (pc2 := 267) (fun Q => g_iload d_M_payBoth_265 rfl) ?_
        refine S.of1 (pc2 := 268) (fun Q => g_iload_n d_M_payBoth_267 rfl) ?_
        refine S.br (c := v3 ≤ x31) (t := 282) (e := 271) (fun Q kt kf => g_icmp_ge d_M_payBoth_268 rfl kt kf) (fun h32 => ?_) (fun h32 => ?_)
        · refine S.of1 (pc2 := 285) (L2 := [some (.ref 59), some (.int v1), some (.int v2), some (.int v3), some (.int v4), some (.int v5), some (.int v6), some (.int (v7 + (1 : Int32))), some (.int v8), some (.int v9), some (.int v10), some (.int v11), some (.int s0), some (.int x31)]) (fun Q => g_iinc d_M_payBoth_282 rfl (congrArg (fun z => v7 + z) (by decide)) (Nat.le_of_ble_eq_true rfl) rfl) ?_
          refine S.of1 (pc2 := 79) (fun Q => g_goto d_M_payBoth_285 rfl) ?_
          exact S.wk (L2 := [some (.ref 59), some (.int v1), some (.int v2), some (.int v3), some (.int v4), some (.int v5), some (.int v6), some (.int (v7 + (1 : Int32))), none, none, none, none, none, none]) (And.intro rfl (And.intro rfl (And.intro rfl (And.intro rfl (And.intro rfl (And.intro rfl (And.intro rfl (And.intro rfl trivial)))))))) (hk79 v1 v2 v3 v4 v5 v6 (v7 + (1 : Int32)) σ)
        · refine S.of1 (pc2 := 273) (fun Q => g_iload d_M_payBoth_271 rfl) ?_
          refine S.of1 (pc2 := 274) (L2 := [some (.ref 59), some (.int v1), some (.int v2), some (.int x31), some (.int v4), some (.int v5), some (.int v6), some (.int v7), some (.int v8), some (.int v9), some (.int v10), some (.int v11), some (.int s0), some (.int x31)]) (fun Q => g_istore_n d_M_payBoth_273 (Nat.le_of_ble_eq_true rfl) rfl) ?_
          refine S.of1 (pc2 := 276) (fun Q => g_iload d_M_payBoth_274 rfl) ?_
          refine S.of1 (pc2 := 278) (L2 := [some (.ref 59), some (.int v1), some (.int v2), some (.int x31), some (.int v6), some (.int v5), some (.int v6), some (.int v7), some (.int v8), some (.int v9), some (.int v10), some (.int v11), some (.int s0), some (.int x31)]) (fun Q => g_istore d_M_payBoth_276 (Nat.le_of_ble_eq_true rfl) rfl) ?_
          refine S.of1 (pc2 := 280) (fun Q => g_iload d_M_payBoth_278 rfl) ?_
          refine S.of1 (pc2 := 282) (L2 := [some (.ref 59), some (.int v1), some (.int v2), some (.int x31), some (.int v6), some (.int v7), some (.int v6), some (.int v7), some (.int v8), some (.int v9), some (.int v10), some (.int v11), some (.int s0), some (.int x31)]) (fun Q => g_istore d_M_payBoth_280 (Nat.le_of_ble_eq_true rfl) rfl) ?_
          refine S.of1 (pc2 := 285) (L2 := [some (.ref 59), some (.int v1), some (.int v2), some (.int x31), some (.int v6), some (.int v7), some (.int v6), some (.int (v7 + (1 : Int32))), some (.int v8), some (.int v9), some (.int v10), some (.int v11), some (.int s0), some (.int x31)]) (fun Q => g_iinc d_M_payBoth_282 rfl (congrArg (fun z => v7 + z) (by decide)) (Nat.le_of_ble_eq_true rfl) rfl) ?_
          refine S.of1 (pc2 := 79) (fun Q => g_goto d_M_payBoth_285 rfl) ?_
          exact S.wk (L2 := [some (.ref 59), some (.int v1), some (.int v2), some (.int x31), some (.int v6), some (.int v7), some (.int v6), some (.int (v7 + (1 : Int32))), none, none, none, none, none, none]) (And.intro rfl (And.intro rfl (And.intro rfl (And.intro rfl (And.intro rfl (And.intro rfl (And.intro rfl (And.intro rfl trivial)))))))) (hk79 v1 v2 x31 v6 v7 v6 (v7 + (1 : Int32)) σ)
def f_M_payBoth_j178 (k69 : Int32 → Int32 → Int32 → Int32 → Int32 → Int32 → gS → Option (Int32 × gS)) (k79 : Int32 → Int32 → Int32 → Int32 → Int32 → Int32 → Int32 → gS → Option (Int32 × gS)) (v1 : Int32) (v2 : Int32) (v3 : Int32) (v4 : Int32) (v5 : Int32) (v6 : Int32) (v7 : Int32) (v8 : Int32) (v9 : Int32) (v10 : Int32) (v11 : Int32) (σ : gS) : Option (Int32 × gS) :=
  f_M_payBoth_j179 k69 k79 v1 v2 v3 v4 v5 v6 v7 v8 v9 v10 v11 (0 : Int32) σ
theorem s_M_payBoth_j178 (d : Nat) (hd : 60 ≤ d) (k69 : Int32 → Int32 → Int32 → Int32 → Int32 → Int32 → gS → Option (Int32 × gS)) (hk69 : ∀ (v1 : Int32) (v2 : Int32) (v3 : Int32) (v4 : Int32) (v5 : Int32) (v6 : Int32) (τ : gS), S wI m_M_payBoth d 69 [some (.ref 59), some (.int v1), some (.int v2), some (.int v3), some (.int v4), some (.int v5), some (.int v6), none, none, none, none, none, none, none] [] τ (k69 v1 v2 v3 v4 v5 v6 τ)) (k79 : Int32 → Int32 → Int32 → Int32 → Int32 → Int32 → Int32 → gS → Option (Int32 × gS)) (hk79 : ∀ (v1 : Int32) (v2 : Int32) (v3 : Int32) (v4 : Int32) (v5 : Int32) (v6 : Int32) (v7 : Int32) (τ : gS), S wI m_M_payBoth d 79 [some (.ref 59), some (.int v1), some (.int v2), some (.int v3), some (.int v4), some (.int v5), some (.int v6), some (.int v7), none, none, none, none, none, none] [] τ (k79 v1 v2 v3 v4 v5 v6 v7 τ)) (v1 : Int32) (v2 : Int32) (v3 : Int32) (v4 : Int32) (v5 : Int32) (v6 : Int32) (v7 : Int32) (v8 : Int32) (v9 : Int32) (v10 : Int32) (v11 : Int32) (σ : gS) : S wI m_M_payBoth d 178 [some (.ref 59), some (.int v1), some (.int v2), some (.int v3), some (.int v4), some (.int v5), some (.int v6), some (.int v7), some (.int v8), some (.int v9), some (.int v10), some (.int v11), none, none] [] σ (f_M_payBoth_j178 k69 k79 v1 v2 v3 v4 v5 v6 v7 v8 v9 v10 v11 σ) := by
  unfold f_M_payBoth_j178
  refine S.of1 (pc2 := 179) (fun Q => g_iconst (v := (0 : Int32)) d_M_payBoth_178 (by decide)) ?_
  exact S.wk (L2 := [some (.ref 59), some (.int v1), some (.int v2), some (.int v3), some (.int v4), some (.int v5), some (.int v6), some (.int v7), some (.int v8), some (.int v9), some (.int v10), some (.int v11), none, none]) (And.intro rfl (And.intro rfl (And.intro rfl (And.intro rfl (And.intro rfl (And.intro rfl (And.intro rfl (And.intro rfl (And.intro rfl (And.intro rfl (And.intro rfl (And.intro rfl trivial)))))))))))) (s_M_payBoth_j179 d hd k69 hk69 k79 hk79 v1 v2 v3 v4 v5 v6 v7 v8 v9 v10 v11 (0 : Int32) σ)
def f_M_payBoth_L79 (k69 : Int32 → Int32 → Int32 → Int32 → Int32 → Int32 → gS → Option (Int32 × gS)) : Nat → Int32 → Int32 → Int32 → Int32 → Int32 → Int32 → Int32 → gS → Option (Int32 × gS)
  | 0, _, _, _, _, _, _, _, _ => none
  | n + 1, v1, v2, v3, v4, v5, v6, v7, σ =>
  if (100 : Int32) ≤ v7 then k69 v1 v2 v3 v4 v5 (v6 + (1 : Int32)) σ else glt (v6 / (10 : Int32)) fun x15 => glt (grem v6 (10 : Int32)) fun x16 => glt (v7 / (10 : Int32)) fun x17 => glt (grem v7 (10 : Int32)) fun x18 => if x16 ≤ x15 then f_M_payBoth_j178 k69 (fun v1 v2 v3 v4 v5 v6 v7 σ => f_M_payBoth_L79 k69 n v1 v2 v3 v4 v5 v6 v7 σ) v1 v2 v3 v4 v5 v6 v7 x15 x16 x17 x18 σ else if (σ.1 59 6) ≤ x16 then f_M_payBoth_j178 k69 (fun v1 v2 v3 v4 v5 v6 v7 σ => f_M_payBoth_L79 k69 n v1 v2 v3 v4 v5 v6 v7 σ) v1 v2 v3 v4 v5 v6 v7 x15 x16 x17 x18 σ else if x18 ≤ x17 then f_M_payBoth_j178 k69 (fun v1 v2 v3 v4 v5 v6 v7 σ => f_M_payBoth_L79 k69 n v1 v2 v3 v4 v5 v6 v7 σ) v1 v2 v3 v4 v5 v6 v7 x15 x16 x17 x18 σ else if (σ.1 59 6) ≤ x18 then f_M_payBoth_j178 k69 (fun v1 v2 v3 v4 v5 v6 v7 σ => f_M_payBoth_L79 k69 n v1 v2 v3 v4 v5 v6 v7 σ) v1 v2 v3 v4 v5 v6 v7 x15 x16 x17 x18 σ else if x15 = x17 then f_M_payBoth_j178 k69 (fun v1 v2 v3 v4 v5 v6 v7 σ => f_M_payBoth_L79 k69 n v1 v2 v3 v4 v5 v6 v7 σ) v1 v2 v3 v4 v5 v6 v7 x15 x16 x17 x18 σ else if x15 = x18 then f_M_payBoth_j178 k69 (fun v1 v2 v3 v4 v5 v6 v7 σ => f_M_payBoth_L79 k69 n v1 v2 v3 v4 v5 v6 v7 σ) v1 v2 v3 v4 v5 v6 v7 x15 x16 x17 x18 σ else if x16 = x17 then f_M_payBoth_j178 k69 (fun v1 v2 v3 v4 v5 v6 v7 σ => f_M_payBoth_L79 k69 n v1 v2 v3 v4 v5 v6 v7 σ) v1 v2 v3 v4 v5 v6 v7 x15 x16 x17 x18 σ else if x16 = x18 then f_M_payBoth_j178 k69 (fun v1 v2 v3 v4 v5 v6 v7 σ => f_M_payBoth_L79 k69 n v1 v2 v3 v4 v5 v6 v7 σ) v1 v2 v3 v4 v5 v6 v7 x15 x16 x17 x18 σ else f_M_payBoth_j179 k69 (fun v1 v2 v3 v4 v5 v6 v7 σ => f_M_payBoth_L79 k69 n v1 v2 v3 v4 v5 v6 v7 σ) v1 v2 v3 v4 v5 v6 v7 x15 x16 x17 x18 (1 : Int32) σ
theorem s_M_payBoth_L79 (d : Nat) (hd : 60 ≤ d) (k69 : Int32 → Int32 → Int32 → Int32 → Int32 → Int32 → gS → Option (Int32 × gS)) (hk69 : ∀ (v1 : Int32) (v2 : Int32) (v3 : Int32) (v4 : Int32) (v5 : Int32) (v6 : Int32) (τ : gS), S wI m_M_payBoth d 69 [some (.ref 59), some (.int v1), some (.int v2), some (.int v3), some (.int v4), some (.int v5), some (.int v6), none, none, none, none, none, none, none] [] τ (k69 v1 v2 v3 v4 v5 v6 τ)) : ∀ (n : Nat) (v1 : Int32) (v2 : Int32) (v3 : Int32) (v4 : Int32) (v5 : Int32) (v6 : Int32) (v7 : Int32) (σ : gS), S wI m_M_payBoth d 79 [some (.ref 59), some (.int v1), some (.int v2), some (.int v3), some (.int v4), some (.int v5), some (.int v6), some (.int v7), none, none, none, none, none, none] [] σ (f_M_payBoth_L79 k69 n v1 v2 v3 v4 v5 v6 v7 σ) := by
  intro n
  induction n with
  | zero =>
    intros
    unfold f_M_payBoth_L79
    exact S.no
  | succ n ih =>
    intro v1 v2 v3 v4 v5 v6 v7 σ
    unfold f_M_payBoth_L79
    refine S.of1 (pc2 := 81) (fun Q => g_iload d_M_payBoth_79 rfl) ?_
    refine S.of1 (pc2 := 83) (fun Q => g_bipush (v := (100 : Int32)) d_M_payBoth_81 (by decide)) ?_
    refine S.br (c := (100 : Int32) ≤ v7) (t := 288) (e := 86) (fun Q kt kf => g_icmp_ge d_M_payBoth_83 rfl kt kf) (fun h14 => ?_) (fun h14 => ?_)
    · refine S.of1 (pc2 := 291) (L2 := [some (.ref 59), some (.int v1), some (.int v2), some (.int v3), some (.int v4), some (.int v5), some (.int (v6 + (1 : Int32))), some (.int v7), none, none, none, none, none, none]) (fun Q => g_iinc d_M_payBoth_288 rfl (congrArg (fun z => v6 + z) (by decide)) (Nat.le_of_ble_eq_true rfl) rfl) ?_
      refine S.of1 (pc2 := 69) (fun Q => g_goto d_M_payBoth_291 rfl) ?_
      exact S.wk (L2 := [some (.ref 59), some (.int v1), some (.int v2), some (.int v3), some (.int v4), some (.int v5), some (.int (v6 + (1 : Int32))), none, none, none, none, none, none, none]) (And.intro rfl (And.intro rfl (And.intro rfl (And.intro rfl (And.intro rfl (And.intro rfl (And.intro rfl trivial))))))) (hk69 v1 v2 v3 v4 v5 (v6 + (1 : Int32)) σ)
    · refine S.of1 (pc2 := 88) (fun Q => g_iload d_M_payBoth_86 rfl) ?_
      refine S.of1 (pc2 := 90) (fun Q => g_bipush (v := (10 : Int32)) d_M_payBoth_88 (by decide)) ?_
      refine S.of1 (pc2 := 91) (fun Q => g_idiv d_M_payBoth_90 (by decide)) ?_
      refine S.of1 (pc2 := 93) (L2 := [some (.ref 59), some (.int v1), some (.int v2), some (.int v3), some (.int v4), some (.int v5), some (.int v6), some (.int v7), some (.int (v6 / (10 : Int32))), none, none, none, none, none]) (fun Q => g_istore d_M_payBoth_91 (Nat.le_of_ble_eq_true rfl) rfl) ?_
      refine S.glt (x := (v6 / (10 : Int32))) (Lf := fun y => [some (.ref 59), some (.int v1), some (.int v2), some (.int v3), some (.int v4), some (.int v5), some (.int v6), some (.int v7), some (.int y), none, none, none, none, none]) (fun x15 => ?_)
      refine S.of1 (pc2 := 95) (fun Q => g_iload d_M_payBoth_93 rfl) ?_
      refine S.of1 (pc2 := 97) (fun Q => g_bipush (v := (10 : Int32)) d_M_payBoth_95 (by decide)) ?_
      refine S.of1 (pc2 := 98) (fun Q => g_irem d_M_payBoth_97 (by decide)) ?_
      refine S.of1 (pc2 := 100) (L2 := [some (.ref 59), some (.int v1), some (.int v2), some (.int v3), some (.int v4), some (.int v5), some (.int v6), some (.int v7), some (.int x15), some (.int (grem v6 (10 : Int32))), none, none, none, none]) (fun Q => g_istore d_M_payBoth_98 (Nat.le_of_ble_eq_true rfl) rfl) ?_
      refine S.glt (x := (grem v6 (10 : Int32))) (Lf := fun y => [some (.ref 59), some (.int v1), some (.int v2), some (.int v3), some (.int v4), some (.int v5), some (.int v6), some (.int v7), some (.int x15), some (.int y), none, none, none, none]) (fun x16 => ?_)
      refine S.of1 (pc2 := 102) (fun Q => g_iload d_M_payBoth_100 rfl) ?_
      refine S.of1 (pc2 := 104) (fun Q => g_bipush (v := (10 : Int32)) d_M_payBoth_102 (by decide)) ?_
      refine S.of1 (pc2 := 105) (fun Q => g_idiv d_M_payBoth_104 (by decide)) ?_
      refine S.of1 (pc2 := 107) (L2 := [some (.ref 59), some (.int v1), some (.int v2), some (.int v3), some (.int v4), some (.int v5), some (.int v6), some (.int v7), some (.int x15), some (.int x16), some (.int (v7 / (10 : Int32))), none, none, none]) (fun Q => g_istore d_M_payBoth_105 (Nat.le_of_ble_eq_true rfl) rfl) ?_
      refine S.glt (x := (v7 / (10 : Int32))) (Lf := fun y => [some (.ref 59), some (.int v1), some (.int v2), some (.int v3), some (.int v4), some (.int v5), some (.int v6), some (.int v7), some (.int x15), some (.int x16), some (.int y), none, none, none]) (fun x17 => ?_)
      refine S.of1 (pc2 := 109) (fun Q => g_iload d_M_payBoth_107 rfl) ?_
      refine S.of1 (pc2 := 111) (fun Q => g_bipush (v := (10 : Int32)) d_M_payBoth_109 (by decide)) ?_
      refine S.of1 (pc2 := 112) (fun Q => g_irem d_M_payBoth_111 (by decide)) ?_
      refine S.of1 (pc2 := 114) (L2 := [some (.ref 59), some (.int v1), some (.int v2), some (.int v3), some (.int v4), some (.int v5), some (.int v6), some (.int v7), some (.int x15), some (.int x16), some (.int x17), some (.int (grem v7 (10 : Int32))), none, none]) (fun Q => g_istore d_M_payBoth_112 (Nat.le_of_ble_eq_true rfl) rfl) ?_
      refine S.glt (x := (grem v7 (10 : Int32))) (Lf := fun y => [some (.ref 59), some (.int v1), some (.int v2), some (.int v3), some (.int v4), some (.int v5), some (.int v6), some (.int v7), some (.int x15), some (.int x16), some (.int x17), some (.int y), none, none]) (fun x18 => ?_)
      refine S.of1 (pc2 := 116) (fun Q => g_iload d_M_payBoth_114 rfl) ?_
      refine S.of1 (pc2 := 118) (fun Q => g_iload d_M_payBoth_116 rfl) ?_
      refine S.br (c := x16 ≤ x15) (t := 178) (e := 121) (fun Q kt kf => g_icmp_ge d_M_payBoth_118 rfl kt kf) (fun h19 => ?_) (fun h19 => ?_)
      · exact S.wk (L2 := [some (.ref 59), some (.int v1), some (.int v2), some (.int v3), some (.int v4), some (.int v5), some (.int v6), some (.int v7), some (.int x15), some (.int x16), some (.int x17), some (.int x18), none, none]) (And.intro rfl (And.intro rfl (And.intro rfl (And.intro rfl (And.intro rfl (And.intro rfl (And.intro rfl (And.intro rfl (And.intro rfl (And.intro rfl (And.intro rfl (And.intro rfl trivial)))))))))))) (s_M_payBoth_j178 d hd k69 hk69 (fun v1 v2 v3 v4 v5 v6 v7 σ => f_M_payBoth_L79 k69 n v1 v2 v3 v4 v5 v6 v7 σ) (fun v1 v2 v3 v4 v5 v6 v7 τ => ih v1 v2 v3 v4 v5 v6 v7 τ) v1 v2 v3 v4 v5 v6 v7 x15 x16 x17 x18 σ)
      · refine S.of1 (pc2 := 123) (fun Q => g_iload d_M_payBoth_121 rfl) ?_
        refine S.of1 (pc2 := 124) (fun Q => g_aload_n d_M_payBoth_123 rfl) ?_
        refine S.of1 (pc2 := 127) (fun Q => g_geti fl_RX11_81 gc_59_6 d_M_payBoth_124) ?_
        refine S.br (c := (σ.1 59 6) ≤ x16) (t := 178) (e := 130) (fun Q kt kf => g_icmp_ge d_M_payBoth_127 rfl kt kf) (fun h33 => ?_) (fun h33 => ?_)
        · exact S.wk (L2 := [some (.ref 59), some (.int v1), some (.int v2), some (.int v3), some (.int v4), some (.int v5), some (.int v6), some (.int v7), some (.int x15), some (.int x16), some (.int x17), some (.int x18), none, none]) (And.intro rfl (And.intro rfl (And.intro rfl (And.intro rfl (And.intro rfl (And.intro rfl (And.intro rfl (And.intro rfl (And.intro rfl (And.intro rfl (And.intro rfl (And.intro rfl trivial)))))))))))) (s_M_payBoth_j178 d hd k69 hk69 (fun v1 v2 v3 v4 v5 v6 v7 σ => f_M_payBoth_L79 k69 n v1 v2 v3 v4 v5 v6 v7 σ) (fun v1 v2 v3 v4 v5 v6 v7 τ => ih v1 v2 v3 v4 v5 v6 v7 τ) v1 v2 v3 v4 v5 v6 v7 x15 x16 x17 x18 σ)
        · refine S.of1 (pc2 := 132) (fun Q => g_iload d_M_payBoth_130 rfl) ?_
          refine S.of1 (pc2 := 134) (fun Q => g_iload d_M_payBoth_132 rfl) ?_
          refine S.br (c := x18 ≤ x17) (t := 178) (e := 137) (fun Q kt kf => g_icmp_ge d_M_payBoth_134 rfl kt kf) (fun h34 => ?_) (fun h34 => ?_)
          · exact S.wk (L2 := [some (.ref 59), some (.int v1), some (.int v2), some (.int v3), some (.int v4), some (.int v5), some (.int v6), some (.int v7), some (.int x15), some (.int x16), some (.int x17), some (.int x18), none, none]) (And.intro rfl (And.intro rfl (And.intro rfl (And.intro rfl (And.intro rfl (And.intro rfl (And.intro rfl (And.intro rfl (And.intro rfl (And.intro rfl (And.intro rfl (And.intro rfl trivial)))))))))))) (s_M_payBoth_j178 d hd k69 hk69 (fun v1 v2 v3 v4 v5 v6 v7 σ => f_M_payBoth_L79 k69 n v1 v2 v3 v4 v5 v6 v7 σ) (fun v1 v2 v3 v4 v5 v6 v7 τ => ih v1 v2 v3 v4 v5 v6 v7 τ) v1 v2 v3 v4 v5 v6 v7 x15 x16 x17 x18 σ)
          · refine S.of1 (pc2 := 139) (fun Q => g_iload d_M_payBoth_137 rfl) ?_
            refine S.of1 (pc2 := 140) (fun Q => g_aload_n d_M_payBoth_139 rfl) ?_
            refine S.of1 (pc2 := 143) (fun Q => g_geti fl_RX11_81 gc_59_6 d_M_payBoth_140) ?_
            refine S.br (c := (σ.1 59 6) ≤ x18) (t := 178) (e := 146) (fun Q kt kf => g_icmp_ge d_M_payBoth_143 rfl kt kf) (fun h35 => ?_) (fun h35 => ?_)
            · exact S.wk (L2 := [some (.ref 59), some (.int v1), some (.int v2), some (.int v3), some (.int v4), some (.int v5), some (.int v6), some (.int v7), some (.int x15), some (.int x16), some (.int x17), some (.int x18), none, none]) (And.intro rfl (And.intro rfl (And.intro rfl (And.intro rfl (And.intro rfl (And.intro rfl (And.intro rfl (And.intro rfl (And.intro rfl (And.intro rfl (And.intro rfl (And.intro rfl trivial)))))))))))) (s_M_payBoth_j178 d hd k69 hk69 (fun v1 v2 v3 v4 v5 v6 v7 σ => f_M_payBoth_L79 k69 n v1 v2 v3 v4 v5 v6 v7 σ) (fun v1 v2 v3 v4 v5 v6 v7 τ => ih v1 v2 v3 v4 v5 v6 v7 τ) v1 v2 v3 v4 v5 v6 v7 x15 x16 x17 x18 σ)
            · refine S.of1 (pc2 := 148) (fun Q => g_iload d_M_payBoth_146 rfl) ?_
              refine S.of1 (pc2 := 150) (fun Q => g_iload d_M_payBoth_148 rfl) ?_
              refine S.br (c := x15 = x17) (t := 178) (e := 153) (fun Q kt kf => g_icmp_eq d_M_payBoth_150 rfl kt kf) (fun h36 => ?_) (fun h36 => ?_)
              · exact S.wk (L2 := [some (.ref 59), some (.int v1), some (.int v2), some (.int v3), some (.int v4), some (.int v5), some (.int v6), some (.int v7), some (.int x15), some (.int x16), some (.int x17), some (.int x18), none, none]) (And.intro rfl (And.intro rfl (And.intro rfl (And.intro rfl (And.intro rfl (And.intro rfl (And.intro rfl (And.intro rfl (And.intro rfl (And.intro rfl (And.intro rfl (And.intro rfl trivial)))))))))))) (s_M_payBoth_j178 d hd k69 hk69 (fun v1 v2 v3 v4 v5 v6 v7 σ => f_M_payBoth_L79 k69 n v1 v2 v3 v4 v5 v6 v7 σ) (fun v1 v2 v3 v4 v5 v6 v7 τ => ih v1 v2 v3 v4 v5 v6 v7 τ) v1 v2 v3 v4 v5 v6 v7 x15 x16 x17 x18 σ)
              · refine S.of1 (pc2 := 155) (fun Q => g_iload d_M_payBoth_153 rfl) ?_
                refine S.of1 (pc2 := 157) (fun Q => g_iload d_M_payBoth_155 rfl) ?_
                refine S.br (c := x15 = x18) (t := 178) (e := 160) (fun Q kt kf => g_icmp_eq d_M_payBoth_157 rfl kt kf) (fun h37 => ?_) (fun h37 => ?_)
                · exact S.wk (L2 := [some (.ref 59), some (.int v1), some (.int v2), some (.int v3), some (.int v4), some (.int v5), some (.int v6), some (.int v7), some (.int x15), some (.int x16), some (.int x17), some (.int x18), none, none]) (And.intro rfl (And.intro rfl (And.intro rfl (And.intro rfl (And.intro rfl (And.intro rfl (And.intro rfl (And.intro rfl (And.intro rfl (And.intro rfl (And.intro rfl (And.intro rfl trivial)))))))))))) (s_M_payBoth_j178 d hd k69 hk69 (fun v1 v2 v3 v4 v5 v6 v7 σ => f_M_payBoth_L79 k69 n v1 v2 v3 v4 v5 v6 v7 σ) (fun v1 v2 v3 v4 v5 v6 v7 τ => ih v1 v2 v3 v4 v5 v6 v7 τ) v1 v2 v3 v4 v5 v6 v7 x15 x16 x17 x18 σ)
                · refine S.of1 (pc2 := 162) (fun Q => g_iload d_M_payBoth_160 rfl) ?_
                  refine S.of1 (pc2 := 164) (fun Q => g_iload d_M_payBoth_162 rfl) ?_
                  refine S.br (c := x16 = x17) (t := 178) (e := 167) (fun Q kt kf => g_icmp_eq d_M_payBoth_164 rfl kt kf) (fun h38 => ?_) (fun h38 => ?_)
                  · exact S.wk (L2 := [some (.ref 59), some (.int v1), some (.int v2), some (.int v3), some (.int v4), some (.int v5), some (.int v6), some (.int v7), some (.int x15), some (.int x16), some (.int x17), some (.int x18), none, none]) (And.intro rfl (And.intro rfl (And.intro rfl (And.intro rfl (And.intro rfl (And.intro rfl (And.intro rfl (And.intro rfl (And.intro rfl (And.intro rfl (And.intro rfl (And.intro rfl trivial)))))))))))) (s_M_payBoth_j178 d hd k69 hk69 (fun v1 v2 v3 v4 v5 v6 v7 σ => f_M_payBoth_L79 k69 n v1 v2 v3 v4 v5 v6 v7 σ) (fun v1 v2 v3 v4 v5 v6 v7 τ => ih v1 v2 v3 v4 v5 v6 v7 τ) v1 v2 v3 v4 v5 v6 v7 x15 x16 x17 x18 σ)
                  · refine S.of1 (pc2 := 169) (fun Q => g_iload d_M_payBoth_167 rfl) ?_
                    refine S.of1 (pc2 := 171) (fun Q => g_iload d_M_payBoth_169 rfl) ?_
                    refine S.br (c := x16 = x18) (t := 178) (e := 174) (fun Q kt kf => g_icmp_eq d_M_payBoth_171 rfl kt kf) (fun h39 => ?_) (fun h39 => ?_)
                    · exact S.wk (L2 := [some (.ref 59), some (.int v1), some (.int v2), some (.int v3), some (.int v4), some (.int v5), some (.int v6), some (.int v7), some (.int x15), some (.int x16), some (.int x17), some (.int x18), none, none]) (And.intro rfl (And.intro rfl (And.intro rfl (And.intro rfl (And.intro rfl (And.intro rfl (And.intro rfl (And.intro rfl (And.intro rfl (And.intro rfl (And.intro rfl (And.intro rfl trivial)))))))))))) (s_M_payBoth_j178 d hd k69 hk69 (fun v1 v2 v3 v4 v5 v6 v7 σ => f_M_payBoth_L79 k69 n v1 v2 v3 v4 v5 v6 v7 σ) (fun v1 v2 v3 v4 v5 v6 v7 τ => ih v1 v2 v3 v4 v5 v6 v7 τ) v1 v2 v3 v4 v5 v6 v7 x15 x16 x17 x18 σ)
                    · refine S.of1 (pc2 := 175) (fun Q => g_iconst (v := (1 : Int32)) d_M_payBoth_174 (by decide)) ?_
                      refine S.of1 (pc2 := 179) (fun Q => g_goto d_M_payBoth_175 rfl) ?_
                      exact S.wk (L2 := [some (.ref 59), some (.int v1), some (.int v2), some (.int v3), some (.int v4), some (.int v5), some (.int v6), some (.int v7), some (.int x15), some (.int x16), some (.int x17), some (.int x18), none, none]) (And.intro rfl (And.intro rfl (And.intro rfl (And.intro rfl (And.intro rfl (And.intro rfl (And.intro rfl (And.intro rfl (And.intro rfl (And.intro rfl (And.intro rfl (And.intro rfl trivial)))))))))))) (s_M_payBoth_j179 d hd k69 hk69 (fun v1 v2 v3 v4 v5 v6 v7 σ => f_M_payBoth_L79 k69 n v1 v2 v3 v4 v5 v6 v7 σ) (fun v1 v2 v3 v4 v5 v6 v7 τ => ih v1 v2 v3 v4 v5 v6 v7 τ) v1 v2 v3 v4 v5 v6 v7 x15 x16 x17 x18 (1 : Int32) σ)
def f_M_payBoth_L69 : Nat → Int32 → Int32 → Int32 → Int32 → Int32 → Int32 → gS → Option (Int32 × gS)
  | 0, _, _, _, _, _, _, _ => none
  | n + 1, v1, v2, v3, v4, v5, v6, σ =>
  if (100 : Int32) ≤ v6 then if 0 ≤ v4 then if v2 = 0 then some (v3, σ) else if v2 = (1 : Int32) then some (v4, σ) else some (v5, σ) else some ((-2 : Int32), σ) else f_M_payBoth_L79 (fun v1 v2 v3 v4 v5 v6 σ => f_M_payBoth_L69 n v1 v2 v3 v4 v5 v6 σ) gfu v1 v2 v3 v4 v5 v6 (0 : Int32) σ
theorem s_M_payBoth_L69 (d : Nat) (hd : 60 ≤ d) : ∀ (n : Nat) (v1 : Int32) (v2 : Int32) (v3 : Int32) (v4 : Int32) (v5 : Int32) (v6 : Int32) (σ : gS), S wI m_M_payBoth d 69 [some (.ref 59), some (.int v1), some (.int v2), some (.int v3), some (.int v4), some (.int v5), some (.int v6), none, none, none, none, none, none, none] [] σ (f_M_payBoth_L69 n v1 v2 v3 v4 v5 v6 σ) := by
  intro n
  induction n with
  | zero =>
    intros
    unfold f_M_payBoth_L69
    exact S.no
  | succ n ih =>
    intro v1 v2 v3 v4 v5 v6 σ
    unfold f_M_payBoth_L69
    refine S.of1 (pc2 := 71) (fun Q => g_iload d_M_payBoth_69 rfl) ?_
    refine S.of1 (pc2 := 73) (fun Q => g_bipush (v := (100 : Int32)) d_M_payBoth_71 (by decide)) ?_
    refine S.br (c := (100 : Int32) ≤ v6) (t := 294) (e := 76) (fun Q kt kf => g_icmp_ge d_M_payBoth_73 rfl kt kf) (fun h10 => ?_) (fun h10 => ?_)
    · refine S.of1 (pc2 := 296) (fun Q => g_iload d_M_payBoth_294 rfl) ?_
      refine S.br (c := 0 ≤ v4) (t := 304) (e := 299) (fun Q kt kf => g_if_ge d_M_payBoth_296 rfl kt kf) (fun h11 => ?_) (fun h11 => ?_)
      · refine S.of1 (pc2 := 305) (fun Q => g_iload_n d_M_payBoth_304 rfl) ?_
        refine S.br (c := v2 = 0) (t := 308) (e := 312) (fun Q kt kf => g_if_ne d_M_payBoth_305 rfl kf kt) (fun h12 => ?_) (fun h12 => ?_)
        · refine S.of1 (pc2 := 309) (fun Q => g_iload_n d_M_payBoth_308 rfl) ?_
          refine S.of1 (pc2 := 324) (fun Q => g_goto d_M_payBoth_309 rfl) ?_
          exact S.ret (fun Q hq => g_iret rfl d_M_payBoth_324 hq)
        · refine S.of1 (pc2 := 313) (fun Q => g_iload_n d_M_payBoth_312 rfl) ?_
          refine S.of1 (pc2 := 314) (fun Q => g_iconst (v := (1 : Int32)) d_M_payBoth_313 (by decide)) ?_
          refine S.br (c := v2 = (1 : Int32)) (t := 317) (e := 322) (fun Q kt kf => g_icmp_ne d_M_payBoth_314 rfl kf kt) (fun h13 => ?_) (fun h13 => ?_)
          · refine S.of1 (pc2 := 319) (fun Q => g_iload d_M_payBoth_317 rfl) ?_
            refine S.of1 (pc2 := 324) (fun Q => g_goto d_M_payBoth_319 rfl) ?_
            exact S.ret (fun Q hq => g_iret rfl d_M_payBoth_324 hq)
          · refine S.of1 (pc2 := 324) (fun Q => g_iload d_M_payBoth_322 rfl) ?_
            exact S.ret (fun Q hq => g_iret rfl d_M_payBoth_324 hq)
      · refine S.of1 (pc2 := 301) (fun Q => g_bipush (v := (-2 : Int32)) d_M_payBoth_299 (by decide)) ?_
        refine S.of1 (pc2 := 324) (fun Q => g_goto d_M_payBoth_301 rfl) ?_
        exact S.ret (fun Q hq => g_iret rfl d_M_payBoth_324 hq)
    · refine S.of1 (pc2 := 77) (fun Q => g_iconst (v := (0 : Int32)) d_M_payBoth_76 (by decide)) ?_
      refine S.of1 (pc2 := 79) (L2 := [some (.ref 59), some (.int v1), some (.int v2), some (.int v3), some (.int v4), some (.int v5), some (.int v6), some (.int (0 : Int32)), none, none, none, none, none, none]) (fun Q => g_istore d_M_payBoth_77 (Nat.le_of_ble_eq_true rfl) rfl) ?_
      exact S.wk (L2 := [some (.ref 59), some (.int v1), some (.int v2), some (.int v3), some (.int v4), some (.int v5), some (.int v6), some (.int (0 : Int32)), none, none, none, none, none, none]) (And.intro rfl (And.intro rfl (And.intro rfl (And.intro rfl (And.intro rfl (And.intro rfl (And.intro rfl (And.intro rfl trivial)))))))) (s_M_payBoth_L79 d hd (fun v1 v2 v3 v4 v5 v6 σ => f_M_payBoth_L69 n v1 v2 v3 v4 v5 v6 σ) (fun v1 v2 v3 v4 v5 v6 τ => ih v1 v2 v3 v4 v5 v6 τ) gfu v1 v2 v3 v4 v5 v6 (0 : Int32) σ)
def f_M_payBoth (v1 : Int32) (v2 : Int32) (σ : gS) : Option (Int32 × gS) :=
  if v1 < 0 then some ((-1 : Int32), σ) else (f_M_isWeather ((v1 / (10 : Int32)).toInt64)).bind fun q2 => if q2 = 0 then some ((-1 : Int32), σ) else (f_M_isWeather ((grem v1 (10 : Int32)).toInt64)).bind fun q4 => if q4 = 0 then some ((-1 : Int32), σ) else if (v1 / (10 : Int32)) = (grem v1 (10 : Int32)) then some ((-1 : Int32), σ) else (f_M_within (v2.toInt64) (0 : Int64) (2 : Int64)).bind fun q7 => if q7 = 0 then some ((-1 : Int32), σ) else (f_M_allSayNow σ).bind fun s9 => f_M_payBoth_L69 gfu v1 v2 (1000000 : Int32) (-2 : Int32) (-2 : Int32) (0 : Int32) s9
theorem c_M_payBoth (d : Nat) (hd : 60 ≤ d) (v1 : Int32) (v2 : Int32) (σ : gS) : C wI d m_M_payBoth [.ref 59, .int v1, .int v2] σ (f_M_payBoth v1 v2 σ) := by
  unfold f_M_payBoth
  refine C.of (by decide +kernel) (Nat.le_of_ble_eq_true rfl) (L := [some (.ref 59), some (.int v1), some (.int v2), none, none, none, none, none, none, none, none, none, none, none]) rfl ?_
  refine S.of1 (pc2 := 1) (fun Q => g_iload_n d_M_payBoth_0 rfl) ?_
  refine S.br (c := v1 < 0) (t := 49) (e := 4) (fun Q kt kf => g_if_lt d_M_payBoth_1 rfl kt kf) (fun h1 => ?_) (fun h1 => ?_)
  · refine S.of1 (pc2 := 50) (fun Q => g_iconst (v := (-1 : Int32)) d_M_payBoth_49 (by decide)) ?_
    exact S.ret (fun Q hq => g_iret rfl d_M_payBoth_50 hq)
  · refine S.of1 (pc2 := 5) (fun Q => g_iload_n d_M_payBoth_4 rfl) ?_
    refine S.of1 (pc2 := 7) (fun Q => g_bipush (v := (10 : Int32)) d_M_payBoth_5 (by decide)) ?_
    refine S.of1 (pc2 := 8) (fun Q => g_idiv d_M_payBoth_7 (by decide)) ?_
    refine S.of1 (pc2 := 9) (fun Q => g_i2l d_M_payBoth_8) ?_
    refine S.call_rI (pc3 := 12) rfl (c_M_isWeather (d - 1) (by omega) ((v1 / (10 : Int32)).toInt64) σ) (fun Q => g_callS (M2 := m_M_isWeather) (vs := [.long ((v1 / (10 : Int32)).toInt64)]) (st := []) ls_RX11_119 rfl (Nat.le_of_ble_eq_true rfl) (by omega) (Nat.le_of_ble_eq_true rfl) rfl d_M_payBoth_9) (fun q2 => ?_)
    refine S.br (c := q2 = 0) (t := 49) (e := 15) (fun Q kt kf => g_if_eq d_M_payBoth_12 rfl kt kf) (fun h3 => ?_) (fun h3 => ?_)
    · refine S.of1 (pc2 := 50) (fun Q => g_iconst (v := (-1 : Int32)) d_M_payBoth_49 (by decide)) ?_
      exact S.ret (fun Q hq => g_iret rfl d_M_payBoth_50 hq)
    · refine S.of1 (pc2 := 16) (fun Q => g_iload_n d_M_payBoth_15 rfl) ?_
      refine S.of1 (pc2 := 18) (fun Q => g_bipush (v := (10 : Int32)) d_M_payBoth_16 (by decide)) ?_
      refine S.of1 (pc2 := 19) (fun Q => g_irem d_M_payBoth_18 (by decide)) ?_
      refine S.of1 (pc2 := 20) (fun Q => g_i2l d_M_payBoth_19) ?_
      refine S.call_rI (pc3 := 23) rfl (c_M_isWeather (d - 1) (by omega) ((grem v1 (10 : Int32)).toInt64) σ) (fun Q => g_callS (M2 := m_M_isWeather) (vs := [.long ((grem v1 (10 : Int32)).toInt64)]) (st := []) ls_RX11_119 rfl (Nat.le_of_ble_eq_true rfl) (by omega) (Nat.le_of_ble_eq_true rfl) rfl d_M_payBoth_20) (fun q4 => ?_)
      refine S.br (c := q4 = 0) (t := 49) (e := 26) (fun Q kt kf => g_if_eq d_M_payBoth_23 rfl kt kf) (fun h5 => ?_) (fun h5 => ?_)
      · refine S.of1 (pc2 := 50) (fun Q => g_iconst (v := (-1 : Int32)) d_M_payBoth_49 (by decide)) ?_
        exact S.ret (fun Q hq => g_iret rfl d_M_payBoth_50 hq)
      · refine S.of1 (pc2 := 27) (fun Q => g_iload_n d_M_payBoth_26 rfl) ?_
        refine S.of1 (pc2 := 29) (fun Q => g_bipush (v := (10 : Int32)) d_M_payBoth_27 (by decide)) ?_
        refine S.of1 (pc2 := 30) (fun Q => g_idiv d_M_payBoth_29 (by decide)) ?_
        refine S.of1 (pc2 := 31) (fun Q => g_iload_n d_M_payBoth_30 rfl) ?_
        refine S.of1 (pc2 := 33) (fun Q => g_bipush (v := (10 : Int32)) d_M_payBoth_31 (by decide)) ?_
        refine S.of1 (pc2 := 34) (fun Q => g_irem d_M_payBoth_33 (by decide)) ?_
        refine S.br (c := (v1 / (10 : Int32)) = (grem v1 (10 : Int32))) (t := 49) (e := 37) (fun Q kt kf => g_icmp_eq d_M_payBoth_34 rfl kt kf) (fun h6 => ?_) (fun h6 => ?_)
        · refine S.of1 (pc2 := 50) (fun Q => g_iconst (v := (-1 : Int32)) d_M_payBoth_49 (by decide)) ?_
          exact S.ret (fun Q hq => g_iret rfl d_M_payBoth_50 hq)
        · refine S.of1 (pc2 := 38) (fun Q => g_iload_n d_M_payBoth_37 rfl) ?_
          refine S.of1 (pc2 := 39) (fun Q => g_i2l d_M_payBoth_38) ?_
          refine S.of1 (pc2 := 40) (fun Q => g_lconst (v := (0 : Int64)) d_M_payBoth_39 (by decide)) ?_
          refine S.of1 (pc2 := 43) (fun Q => g_ldc2 (v := (2 : Int64)) d_M_payBoth_40 w_1311) ?_
          refine S.call_rI (pc3 := 46) rfl (c_M_within (d - 1) (by omega) (v2.toInt64) (0 : Int64) (2 : Int64) σ) (fun Q => g_callS (M2 := m_M_within) (vs := [.long (v2.toInt64), .long (0 : Int64), .long (2 : Int64)]) (st := []) ls_RX11_84 rfl (Nat.le_of_ble_eq_true rfl) (by omega) (Nat.le_of_ble_eq_true rfl) rfl d_M_payBoth_43) (fun q7 => ?_)
          refine S.br (c := q7 = 0) (t := 49) (e := 51) (fun Q kt kf => g_if_ne d_M_payBoth_46 rfl kf kt) (fun h8 => ?_) (fun h8 => ?_)
          · refine S.of1 (pc2 := 50) (fun Q => g_iconst (v := (-1 : Int32)) d_M_payBoth_49 (by decide)) ?_
            exact S.ret (fun Q hq => g_iret rfl d_M_payBoth_50 hq)
          · refine S.of1 (pc2 := 52) (fun Q => g_aload_n d_M_payBoth_51 rfl) ?_
            refine S.call_wV (pc3 := 55) rfl (c_M_allSayNow (d - 1) (by omega) σ) (fun Q => g_callV (M2 := m_M_allSayNow) (vs := []) (st := []) lv_RX11_208 gk_59 rfl rfl (Nat.le_of_ble_eq_true rfl) (by omega) (Nat.le_of_ble_eq_true rfl) rfl d_M_payBoth_52) (fun s9 => ?_)
            refine S.of1 (pc2 := 57) (fun Q => g_ldc (v := (1000000 : Int32)) d_M_payBoth_55 w_1444) ?_
            refine S.of1 (pc2 := 58) (L2 := [some (.ref 59), some (.int v1), some (.int v2), some (.int (1000000 : Int32)), none, none, none, none, none, none, none, none, none, none]) (fun Q => g_istore_n d_M_payBoth_57 (Nat.le_of_ble_eq_true rfl) rfl) ?_
            refine S.of1 (pc2 := 60) (fun Q => g_bipush (v := (-2 : Int32)) d_M_payBoth_58 (by decide)) ?_
            refine S.of1 (pc2 := 62) (L2 := [some (.ref 59), some (.int v1), some (.int v2), some (.int (1000000 : Int32)), some (.int (-2 : Int32)), none, none, none, none, none, none, none, none, none]) (fun Q => g_istore d_M_payBoth_60 (Nat.le_of_ble_eq_true rfl) rfl) ?_
            refine S.of1 (pc2 := 64) (fun Q => g_bipush (v := (-2 : Int32)) d_M_payBoth_62 (by decide)) ?_
            refine S.of1 (pc2 := 66) (L2 := [some (.ref 59), some (.int v1), some (.int v2), some (.int (1000000 : Int32)), some (.int (-2 : Int32)), some (.int (-2 : Int32)), none, none, none, none, none, none, none, none]) (fun Q => g_istore d_M_payBoth_64 (Nat.le_of_ble_eq_true rfl) rfl) ?_
            refine S.of1 (pc2 := 67) (fun Q => g_iconst (v := (0 : Int32)) d_M_payBoth_66 (by decide)) ?_
            refine S.of1 (pc2 := 69) (L2 := [some (.ref 59), some (.int v1), some (.int v2), some (.int (1000000 : Int32)), some (.int (-2 : Int32)), some (.int (-2 : Int32)), some (.int (0 : Int32)), none, none, none, none, none, none, none]) (fun Q => g_istore d_M_payBoth_67 (Nat.le_of_ble_eq_true rfl) rfl) ?_
            exact S.wk (L2 := [some (.ref 59), some (.int v1), some (.int v2), some (.int (1000000 : Int32)), some (.int (-2 : Int32)), some (.int (-2 : Int32)), some (.int (0 : Int32)), none, none, none, none, none, none, none]) (And.intro rfl (And.intro rfl (And.intro rfl (And.intro rfl (And.intro rfl (And.intro rfl (And.intro rfl trivial))))))) (s_M_payBoth_L69 d hd gfu v1 v2 (1000000 : Int32) (-2 : Int32) (-2 : Int32) (0 : Int32) s9)
def f_M_pairsOf_L49 (k2 : Int32 → gS → Option (Int32 × gS)) : Nat → Int32 → Int32 → Int32 → Int32 → Int32 → gS → Option (Int32 × gS)
  | 0, _, _, _, _, _, _ => none
  | n + 1, v1, v2, v3, v4, v5, σ =>
  if (σ.1 59 6) ≤ v5 then if gix v1 1024 then gup (gpi σ 68 v1.toNatClampNeg v4) fun s13 => k2 (v1 + (1 : Int32)) s13 else none else (f_M_isIn v3 v5).bind fun q14 => if q14 = 0 then (fun v1 v2 v3 v4 v5 σ => f_M_pairsOf_L49 k2 n v1 v2 v3 v4 v5 σ) v1 v2 v3 v4 (v5 + (1 : Int32)) σ else (f_M_agree v2 v5 σ).bind fun q16 => if q16 = 0 then (fun v1 v2 v3 v4 v5 σ => f_M_pairsOf_L49 k2 n v1 v2 v3 v4 v5 σ) v1 v2 v3 v4 (v5 + (1 : Int32)) σ else if gix (v3 &&& (((1 : Int32) <<< (v5 &&& 31)) ^^^ (-1 : Int32))) 1024 then if ((σ.1 68 (v3 &&& (((1 : Int32) <<< (v5 &&& 31)) ^^^ (-1 : Int32))).toNatClampNeg) + (1 : Int32)) ≤ v4 then (fun v1 v2 v3 v4 v5 σ => f_M_pairsOf_L49 k2 n v1 v2 v3 v4 v5 σ) v1 v2 v3 v4 (v5 + (1 : Int32)) σ else if gix (v3 &&& (((1 : Int32) <<< (v5 &&& 31)) ^^^ (-1 : Int32))) 1024 then glt ((σ.1 68 (v3 &&& (((1 : Int32) <<< (v5 &&& 31)) ^^^ (-1 : Int32))).toNatClampNeg) + (1 : Int32)) fun x21 => (fun v1 v2 v3 v4 v5 σ => f_M_pairsOf_L49 k2 n v1 v2 v3 v4 v5 σ) v1 v2 v3 x21 (v5 + (1 : Int32)) σ else none else none
theorem s_M_pairsOf_L49 (d : Nat) (hd : 2 ≤ d) (k2 : Int32 → gS → Option (Int32 × gS)) (hk2 : ∀ (v1 : Int32) (τ : gS), S wI m_M_pairsOf d 2 [some (.ref 59), some (.int v1), none, none, none, none] [] τ (k2 v1 τ)) : ∀ (n : Nat) (v1 : Int32) (v2 : Int32) (v3 : Int32) (v4 : Int32) (v5 : Int32) (σ : gS), S wI m_M_pairsOf d 49 [some (.ref 59), some (.int v1), some (.int v2), some (.int v3), some (.int v4), some (.int v5)] [] σ (f_M_pairsOf_L49 k2 n v1 v2 v3 v4 v5 σ) := by
  intro n
  induction n with
  | zero =>
    intros
    unfold f_M_pairsOf_L49
    exact S.no
  | succ n ih =>
    intro v1 v2 v3 v4 v5 σ
    unfold f_M_pairsOf_L49
    refine S.of1 (pc2 := 51) (fun Q => g_iload d_M_pairsOf_49 rfl) ?_
    refine S.of1 (pc2 := 52) (fun Q => g_aload_n d_M_pairsOf_51 rfl) ?_
    refine S.of1 (pc2 := 55) (fun Q => g_geti fl_RX11_81 gc_59_6 d_M_pairsOf_52) ?_
    refine S.br (c := (σ.1 59 6) ≤ v5) (t := 120) (e := 58) (fun Q kt kf => g_icmp_ge d_M_pairsOf_55 rfl kt kf) (fun h11 => ?_) (fun h11 => ?_)
    · refine S.of1 (pc2 := 121) (fun Q => g_aload_n d_M_pairsOf_120 rfl) ?_
      refine S.of1 (pc2 := 124) (fun Q => g_getr fl_RX11_34 gc_59_18 d_M_pairsOf_121) ?_
      refine S.of1 (pc2 := 125) (fun Q => g_iload_n d_M_pairsOf_124 rfl) ?_
      refine S.of1 (pc2 := 127) (fun Q => g_iload d_M_pairsOf_125 rfl) ?_
      refine S.chk (fun h12 => ?_)
      refine S.of1 (pc2 := 128) (fun Q => g_iast ga_68 (gix_in h12) d_M_pairsOf_127) ?_
      refine S.gup (fun s13 => ?_)
      refine S.of1 (pc2 := 131) (L2 := [some (.ref 59), some (.int (v1 + (1 : Int32))), some (.int v2), some (.int v3), some (.int v4), some (.int v5)]) (fun Q => g_iinc d_M_pairsOf_128 rfl (congrArg (fun z => v1 + z) (by decide)) (Nat.le_of_ble_eq_true rfl) rfl) ?_
      refine S.of1 (pc2 := 2) (fun Q => g_goto d_M_pairsOf_131 rfl) ?_
      exact S.wk (L2 := [some (.ref 59), some (.int (v1 + (1 : Int32))), none, none, none, none]) (And.intro rfl (And.intro rfl trivial)) (hk2 (v1 + (1 : Int32)) s13)
    · refine S.of1 (pc2 := 59) (fun Q => g_iload_n d_M_pairsOf_58 rfl) ?_
      refine S.of1 (pc2 := 61) (fun Q => g_iload d_M_pairsOf_59 rfl) ?_
      refine S.call_rI (pc3 := 64) rfl (c_M_isIn (d - 1) (by omega) v3 v5 σ) (fun Q => g_callS (M2 := m_M_isIn) (vs := [.int v3, .int v5]) (st := []) ls_RX11_199 rfl (Nat.le_of_ble_eq_true rfl) (by omega) (Nat.le_of_ble_eq_true rfl) rfl d_M_pairsOf_61) (fun q14 => ?_)
      refine S.br (c := q14 = 0) (t := 114) (e := 67) (fun Q kt kf => g_if_eq d_M_pairsOf_64 rfl kt kf) (fun h15 => ?_) (fun h15 => ?_)
      · refine S.of1 (pc2 := 117) (L2 := [some (.ref 59), some (.int v1), some (.int v2), some (.int v3), some (.int v4), some (.int (v5 + (1 : Int32)))]) (fun Q => g_iinc d_M_pairsOf_114 rfl (congrArg (fun z => v5 + z) (by decide)) (Nat.le_of_ble_eq_true rfl) rfl) ?_
        refine S.of1 (pc2 := 49) (fun Q => g_goto d_M_pairsOf_117 rfl) ?_
        exact S.wk (L2 := [some (.ref 59), some (.int v1), some (.int v2), some (.int v3), some (.int v4), some (.int (v5 + (1 : Int32)))]) (And.intro rfl (And.intro rfl (And.intro rfl (And.intro rfl (And.intro rfl (And.intro rfl trivial)))))) (ih v1 v2 v3 v4 (v5 + (1 : Int32)) σ)
      · refine S.of1 (pc2 := 68) (fun Q => g_aload_n d_M_pairsOf_67 rfl) ?_
        refine S.of1 (pc2 := 69) (fun Q => g_iload_n d_M_pairsOf_68 rfl) ?_
        refine S.of1 (pc2 := 71) (fun Q => g_iload d_M_pairsOf_69 rfl) ?_
        refine S.call_rI (pc3 := 74) rfl (c_M_agree (d - 1) (by omega) v2 v5 σ) (fun Q => g_callV (M2 := m_M_agree) (vs := [.int v2, .int v5]) (st := []) lv_RX11_202 gk_59 rfl rfl (Nat.le_of_ble_eq_true rfl) (by omega) (Nat.le_of_ble_eq_true rfl) rfl d_M_pairsOf_71) (fun q16 => ?_)
        refine S.br (c := q16 = 0) (t := 114) (e := 77) (fun Q kt kf => g_if_eq d_M_pairsOf_74 rfl kt kf) (fun h17 => ?_) (fun h17 => ?_)
        · refine S.of1 (pc2 := 117) (L2 := [some (.ref 59), some (.int v1), some (.int v2), some (.int v3), some (.int v4), some (.int (v5 + (1 : Int32)))]) (fun Q => g_iinc d_M_pairsOf_114 rfl (congrArg (fun z => v5 + z) (by decide)) (Nat.le_of_ble_eq_true rfl) rfl) ?_
          refine S.of1 (pc2 := 49) (fun Q => g_goto d_M_pairsOf_117 rfl) ?_
          exact S.wk (L2 := [some (.ref 59), some (.int v1), some (.int v2), some (.int v3), some (.int v4), some (.int (v5 + (1 : Int32)))]) (And.intro rfl (And.intro rfl (And.intro rfl (And.intro rfl (And.intro rfl (And.intro rfl trivial)))))) (ih v1 v2 v3 v4 (v5 + (1 : Int32)) σ)
        · refine S.of1 (pc2 := 78) (fun Q => g_aload_n d_M_pairsOf_77 rfl) ?_
          refine S.of1 (pc2 := 81) (fun Q => g_getr fl_RX11_34 gc_59_18 d_M_pairsOf_78) ?_
          refine S.of1 (pc2 := 82) (fun Q => g_iload_n d_M_pairsOf_81 rfl) ?_
          refine S.of1 (pc2 := 83) (fun Q => g_iconst (v := (1 : Int32)) d_M_pairsOf_82 (by decide)) ?_
          refine S.of1 (pc2 := 85) (fun Q => g_iload d_M_pairsOf_83 rfl) ?_
          refine S.of1 (pc2 := 86) (fun Q => g_ishl d_M_pairsOf_85) ?_
          refine S.of1 (pc2 := 87) (fun Q => g_iconst (v := (-1 : Int32)) d_M_pairsOf_86 (by decide)) ?_
          refine S.of1 (pc2 := 88) (fun Q => g_ixor d_M_pairsOf_87) ?_
          refine S.of1 (pc2 := 89) (fun Q => g_iand d_M_pairsOf_88) ?_
          refine S.chk (fun h18 => ?_)
          refine S.of1 (pc2 := 90) (fun Q => g_iald ga_68 (gix_in h18) d_M_pairsOf_89) ?_
          refine S.of1 (pc2 := 91) (fun Q => g_iconst (v := (1 : Int32)) d_M_pairsOf_90 (by decide)) ?_
          refine S.of1 (pc2 := 92) (fun Q => g_iadd d_M_pairsOf_91) ?_
          refine S.of1 (pc2 := 94) (fun Q => g_iload d_M_pairsOf_92 rfl) ?_
          refine S.br (c := ((σ.1 68 (v3 &&& (((1 : Int32) <<< (v5 &&& 31)) ^^^ (-1 : Int32))).toNatClampNeg) + (1 : Int32)) ≤ v4) (t := 114) (e := 97) (fun Q kt kf => g_icmp_le d_M_pairsOf_94 rfl kt kf) (fun h19 => ?_) (fun h19 => ?_)
          · refine S.of1 (pc2 := 117) (L2 := [some (.ref 59), some (.int v1), some (.int v2), some (.int v3), some (.int v4), some (.int (v5 + (1 : Int32)))]) (fun Q => g_iinc d_M_pairsOf_114 rfl (congrArg (fun z => v5 + z) (by decide)) (Nat.le_of_ble_eq_true rfl) rfl) ?_
            refine S.of1 (pc2 := 49) (fun Q => g_goto d_M_pairsOf_117 rfl) ?_
            exact S.wk (L2 := [some (.ref 59), some (.int v1), some (.int v2), some (.int v3), some (.int v4), some (.int (v5 + (1 : Int32)))]) (And.intro rfl (And.intro rfl (And.intro rfl (And.intro rfl (And.intro rfl (And.intro rfl trivial)))))) (ih v1 v2 v3 v4 (v5 + (1 : Int32)) σ)
          · refine S.of1 (pc2 := 98) (fun Q => g_aload_n d_M_pairsOf_97 rfl) ?_
            refine S.of1 (pc2 := 101) (fun Q => g_getr fl_RX11_34 gc_59_18 d_M_pairsOf_98) ?_
            refine S.of1 (pc2 := 102) (fun Q => g_iload_n d_M_pairsOf_101 rfl) ?_
            refine S.of1 (pc2 := 103) (fun Q => g_iconst (v := (1 : Int32)) d_M_pairsOf_102 (by decide)) ?_
            refine S.of1 (pc2 := 105) (fun Q => g_iload d_M_pairsOf_103 rfl) ?_
            refine S.of1 (pc2 := 106) (fun Q => g_ishl d_M_pairsOf_105) ?_
            refine S.of1 (pc2 := 107) (fun Q => g_iconst (v := (-1 : Int32)) d_M_pairsOf_106 (by decide)) ?_
            refine S.of1 (pc2 := 108) (fun Q => g_ixor d_M_pairsOf_107) ?_
            refine S.of1 (pc2 := 109) (fun Q => g_iand d_M_pairsOf_108) ?_
            refine S.chk (fun h20 => ?_)
            refine S.of1 (pc2 := 110) (fun Q => g_iald ga_68 (gix_in h20) d_M_pairsOf_109) ?_
            refine S.of1 (pc2 := 111) (fun Q => g_iconst (v := (1 : Int32)) d_M_pairsOf_110 (by decide)) ?_
            refine S.of1 (pc2 := 112) (fun Q => g_iadd d_M_pairsOf_111) ?_
            refine S.of1 (pc2 := 114) (L2 := [some (.ref 59), some (.int v1), some (.int v2), some (.int v3), some (.int ((σ.1 68 (v3 &&& (((1 : Int32) <<< (v5 &&& 31)) ^^^ (-1 : Int32))).toNatClampNeg) + (1 : Int32))), some (.int v5)]) (fun Q => g_istore d_M_pairsOf_112 (Nat.le_of_ble_eq_true rfl) rfl) ?_
            refine S.glt (x := ((σ.1 68 (v3 &&& (((1 : Int32) <<< (v5 &&& 31)) ^^^ (-1 : Int32))).toNatClampNeg) + (1 : Int32))) (Lf := fun y => [some (.ref 59), some (.int v1), some (.int v2), some (.int v3), some (.int y), some (.int v5)]) (fun x21 => ?_)
            refine S.of1 (pc2 := 117) (L2 := [some (.ref 59), some (.int v1), some (.int v2), some (.int v3), some (.int x21), some (.int (v5 + (1 : Int32)))]) (fun Q => g_iinc d_M_pairsOf_114 rfl (congrArg (fun z => v5 + z) (by decide)) (Nat.le_of_ble_eq_true rfl) rfl) ?_
            refine S.of1 (pc2 := 49) (fun Q => g_goto d_M_pairsOf_117 rfl) ?_
            exact S.wk (L2 := [some (.ref 59), some (.int v1), some (.int v2), some (.int v3), some (.int x21), some (.int (v5 + (1 : Int32)))]) (And.intro rfl (And.intro rfl (And.intro rfl (And.intro rfl (And.intro rfl (And.intro rfl trivial)))))) (ih v1 v2 v3 x21 (v5 + (1 : Int32)) σ)
def f_M_pairsOf_L14 (k2 : Int32 → gS → Option (Int32 × gS)) : Nat → Int32 → Int32 → gS → Option (Int32 × gS)
  | 0, _, _, _ => none
  | n + 1, v1, v2, σ =>
  (f_M_isIn v1 v2).bind fun q5 => if q5 = 0 then (fun v1 v2 σ => f_M_pairsOf_L14 k2 n v1 v2 σ) v1 (v2 + (1 : Int32)) σ else glt (v1 &&& (((1 : Int32) <<< (v2 &&& 31)) ^^^ (-1 : Int32))) fun x7 => if gix x7 1024 then glt (σ.1 68 x7.toNatClampNeg) fun x9 => glt (v2 + (1 : Int32)) fun x10 => f_M_pairsOf_L49 k2 gfu v1 v2 x7 x9 x10 σ else none
theorem s_M_pairsOf_L14 (d : Nat) (hd : 2 ≤ d) (k2 : Int32 → gS → Option (Int32 × gS)) (hk2 : ∀ (v1 : Int32) (τ : gS), S wI m_M_pairsOf d 2 [some (.ref 59), some (.int v1), none, none, none, none] [] τ (k2 v1 τ)) : ∀ (n : Nat) (v1 : Int32) (v2 : Int32) (σ : gS), S wI m_M_pairsOf d 14 [some (.ref 59), some (.int v1), some (.int v2), none, none, none] [] σ (f_M_pairsOf_L14 k2 n v1 v2 σ) := by
  intro n
  induction n with
  | zero =>
    intros
    unfold f_M_pairsOf_L14
    exact S.no
  | succ n ih =>
    intro v1 v2 σ
    unfold f_M_pairsOf_L14
    refine S.of1 (pc2 := 15) (fun Q => g_iload_n d_M_pairsOf_14 rfl) ?_
    refine S.of1 (pc2 := 16) (fun Q => g_iload_n d_M_pairsOf_15 rfl) ?_
    refine S.call_rI (pc3 := 19) rfl (c_M_isIn (d - 1) (by omega) v1 v2 σ) (fun Q => g_callS (M2 := m_M_isIn) (vs := [.int v1, .int v2]) (st := []) ls_RX11_199 rfl (Nat.le_of_ble_eq_true rfl) (by omega) (Nat.le_of_ble_eq_true rfl) rfl d_M_pairsOf_16) (fun q5 => ?_)
    refine S.br (c := q5 = 0) (t := 22) (e := 28) (fun Q kt kf => g_if_ne d_M_pairsOf_19 rfl kf kt) (fun h6 => ?_) (fun h6 => ?_)
    · refine S.of1 (pc2 := 25) (L2 := [some (.ref 59), some (.int v1), some (.int (v2 + (1 : Int32))), none, none, none]) (fun Q => g_iinc d_M_pairsOf_22 rfl (congrArg (fun z => v2 + z) (by decide)) (Nat.le_of_ble_eq_true rfl) rfl) ?_
      refine S.of1 (pc2 := 14) (fun Q => g_goto d_M_pairsOf_25 rfl) ?_
      exact S.wk (L2 := [some (.ref 59), some (.int v1), some (.int (v2 + (1 : Int32))), none, none, none]) (And.intro rfl (And.intro rfl (And.intro rfl trivial))) (ih v1 (v2 + (1 : Int32)) σ)
    · refine S.of1 (pc2 := 29) (fun Q => g_iload_n d_M_pairsOf_28 rfl) ?_
      refine S.of1 (pc2 := 30) (fun Q => g_iconst (v := (1 : Int32)) d_M_pairsOf_29 (by decide)) ?_
      refine S.of1 (pc2 := 31) (fun Q => g_iload_n d_M_pairsOf_30 rfl) ?_
      refine S.of1 (pc2 := 32) (fun Q => g_ishl d_M_pairsOf_31) ?_
      refine S.of1 (pc2 := 33) (fun Q => g_iconst (v := (-1 : Int32)) d_M_pairsOf_32 (by decide)) ?_
      refine S.of1 (pc2 := 34) (fun Q => g_ixor d_M_pairsOf_33) ?_
      refine S.of1 (pc2 := 35) (fun Q => g_iand d_M_pairsOf_34) ?_
      refine S.of1 (pc2 := 36) (L2 := [some (.ref 59), some (.int v1), some (.int v2), some (.int (v1 &&& (((1 : Int32) <<< (v2 &&& 31)) ^^^ (-1 : Int32)))), none, none]) (fun Q => g_istore_n d_M_pairsOf_35 (Nat.le_of_ble_eq_true rfl) rfl) ?_
      refine S.glt (x := (v1 &&& (((1 : Int32) <<< (v2 &&& 31)) ^^^ (-1 : Int32)))) (Lf := fun y => [some (.ref 59), some (.int v1), some (.int v2), some (.int y), none, none]) (fun x7 => ?_)
      refine S.of1 (pc2 := 37) (fun Q => g_aload_n d_M_pairsOf_36 rfl) ?_
      refine S.of1 (pc2 := 40) (fun Q => g_getr fl_RX11_34 gc_59_18 d_M_pairsOf_37) ?_
      refine S.of1 (pc2 := 41) (fun Q => g_iload_n d_M_pairsOf_40 rfl) ?_
      refine S.chk (fun h8 => ?_)
      refine S.of1 (pc2 := 42) (fun Q => g_iald ga_68 (gix_in h8) d_M_pairsOf_41) ?_
      refine S.of1 (pc2 := 44) (L2 := [some (.ref 59), some (.int v1), some (.int v2), some (.int x7), some (.int (σ.1 68 x7.toNatClampNeg)), none]) (fun Q => g_istore d_M_pairsOf_42 (Nat.le_of_ble_eq_true rfl) rfl) ?_
      refine S.glt (x := (σ.1 68 x7.toNatClampNeg)) (Lf := fun y => [some (.ref 59), some (.int v1), some (.int v2), some (.int x7), some (.int y), none]) (fun x9 => ?_)
      refine S.of1 (pc2 := 45) (fun Q => g_iload_n d_M_pairsOf_44 rfl) ?_
      refine S.of1 (pc2 := 46) (fun Q => g_iconst (v := (1 : Int32)) d_M_pairsOf_45 (by decide)) ?_
      refine S.of1 (pc2 := 47) (fun Q => g_iadd d_M_pairsOf_46) ?_
      refine S.of1 (pc2 := 49) (L2 := [some (.ref 59), some (.int v1), some (.int v2), some (.int x7), some (.int x9), some (.int (v2 + (1 : Int32)))]) (fun Q => g_istore d_M_pairsOf_47 (Nat.le_of_ble_eq_true rfl) rfl) ?_
      refine S.glt (x := (v2 + (1 : Int32))) (Lf := fun y => [some (.ref 59), some (.int v1), some (.int v2), some (.int x7), some (.int x9), some (.int y)]) (fun x10 => ?_)
      exact S.wk (L2 := [some (.ref 59), some (.int v1), some (.int v2), some (.int x7), some (.int x9), some (.int x10)]) (And.intro rfl (And.intro rfl (And.intro rfl (And.intro rfl (And.intro rfl (And.intro rfl trivial)))))) (s_M_pairsOf_L49 d hd k2 hk2 gfu v1 v2 x7 x9 x10 σ)
def f_M_pairsOf_L2 : Nat → Int32 → gS → Option (Int32 × gS)
  | 0, _, _ => none
  | n + 1, v1, σ =>
  if ((1 : Int32) <<< ((σ.1 59 6) &&& 31)) ≤ v1 then if (σ.1 59 6) = 0 then some ((0 : Int32), σ) else (f_M_everybody σ).bind fun q3 => if gix q3 1024 then some ((σ.1 68 q3.toNatClampNeg), σ) else none else f_M_pairsOf_L14 (fun v1 σ => f_M_pairsOf_L2 n v1 σ) gfu v1 (0 : Int32) σ
theorem s_M_pairsOf_L2 (d : Nat) (hd : 2 ≤ d) : ∀ (n : Nat) (v1 : Int32) (σ : gS), S wI m_M_pairsOf d 2 [some (.ref 59), some (.int v1), none, none, none, none] [] σ (f_M_pairsOf_L2 n v1 σ) := by
  intro n
  induction n with
  | zero =>
    intros
    unfold f_M_pairsOf_L2
    exact S.no
  | succ n ih =>
    intro v1 σ
    unfold f_M_pairsOf_L2
    refine S.of1 (pc2 := 3) (fun Q => g_iload_n d_M_pairsOf_2 rfl) ?_
    refine S.of1 (pc2 := 4) (fun Q => g_iconst (v := (1 : Int32)) d_M_pairsOf_3 (by decide)) ?_
    refine S.of1 (pc2 := 5) (fun Q => g_aload_n d_M_pairsOf_4 rfl) ?_
    refine S.of1 (pc2 := 8) (fun Q => g_geti fl_RX11_81 gc_59_6 d_M_pairsOf_5) ?_
    refine S.of1 (pc2 := 9) (fun Q => g_ishl d_M_pairsOf_8) ?_
    refine S.br (c := ((1 : Int32) <<< ((σ.1 59 6) &&& 31)) ≤ v1) (t := 134) (e := 12) (fun Q kt kf => g_icmp_ge d_M_pairsOf_9 rfl kt kf) (fun h1 => ?_) (fun h1 => ?_)
    · refine S.of1 (pc2 := 135) (fun Q => g_aload_n d_M_pairsOf_134 rfl) ?_
      refine S.of1 (pc2 := 138) (fun Q => g_geti fl_RX11_81 gc_59_6 d_M_pairsOf_135) ?_
      refine S.br (c := (σ.1 59 6) = 0) (t := 141) (e := 145) (fun Q kt kf => g_if_ne d_M_pairsOf_138 rfl kf kt) (fun h2 => ?_) (fun h2 => ?_)
      · refine S.of1 (pc2 := 142) (fun Q => g_iconst (v := (0 : Int32)) d_M_pairsOf_141 (by decide)) ?_
        refine S.of1 (pc2 := 154) (fun Q => g_goto d_M_pairsOf_142 rfl) ?_
        exact S.ret (fun Q hq => g_iret rfl d_M_pairsOf_154 hq)
      · refine S.of1 (pc2 := 146) (fun Q => g_aload_n d_M_pairsOf_145 rfl) ?_
        refine S.of1 (pc2 := 149) (fun Q => g_getr fl_RX11_34 gc_59_18 d_M_pairsOf_146) ?_
        refine S.of1 (pc2 := 150) (fun Q => g_aload_n d_M_pairsOf_149 rfl) ?_
        refine S.call_rI (pc3 := 153) rfl (c_M_everybody (d - 1) (by omega) σ) (fun Q => g_callV (M2 := m_M_everybody) (vs := []) (st := [.ref 68]) lv_RX11_211 gk_59 rfl rfl (Nat.le_of_ble_eq_true rfl) (by omega) (Nat.le_of_ble_eq_true rfl) rfl d_M_pairsOf_150) (fun q3 => ?_)
        refine S.chk (fun h4 => ?_)
        refine S.of1 (pc2 := 154) (fun Q => g_iald ga_68 (gix_in h4) d_M_pairsOf_153) ?_
        exact S.ret (fun Q hq => g_iret rfl d_M_pairsOf_154 hq)
    · refine S.of1 (pc2 := 13) (fun Q => g_iconst (v := (0 : Int32)) d_M_pairsOf_12 (by decide)) ?_
      refine S.of1 (pc2 := 14) (L2 := [some (.ref 59), some (.int v1), some (.int (0 : Int32)), none, none, none]) (fun Q => g_istore_n d_M_pairsOf_13 (Nat.le_of_ble_eq_true rfl) rfl) ?_
      exact S.wk (L2 := [some (.ref 59), some (.int v1), some (.int (0 : Int32)), none, none, none]) (And.intro rfl (And.intro rfl (And.intro rfl trivial))) (s_M_pairsOf_L14 d hd (fun v1 σ => f_M_pairsOf_L2 n v1 σ) (fun v1 τ => ih v1 τ) gfu v1 (0 : Int32) σ)
def f_M_pairsOf (σ : gS) : Option (Int32 × gS) :=
  f_M_pairsOf_L2 gfu (1 : Int32) σ
theorem c_M_pairsOf (d : Nat) (hd : 2 ≤ d) (σ : gS) : C wI d m_M_pairsOf [.ref 59] σ (f_M_pairsOf σ) := by
  unfold f_M_pairsOf
  refine C.of (by decide +kernel) (Nat.le_of_ble_eq_true rfl) (L := [some (.ref 59), none, none, none, none, none]) rfl ?_
  refine S.of1 (pc2 := 1) (fun Q => g_iconst (v := (1 : Int32)) d_M_pairsOf_0 (by decide)) ?_
  refine S.of1 (pc2 := 2) (L2 := [some (.ref 59), some (.int (1 : Int32)), none, none, none, none]) (fun Q => g_istore_n d_M_pairsOf_1 (Nat.le_of_ble_eq_true rfl) rfl) ?_
  exact S.wk (L2 := [some (.ref 59), some (.int (1 : Int32)), none, none, none, none]) (And.intro rfl (And.intro rfl trivial)) (s_M_pairsOf_L2 d hd gfu (1 : Int32) σ)
def f_M_droughtOf_j122 (k25 : Int32 → Int32 → gS → Option (Int32 × gS)) (k35 : Int32 → Int32 → Int32 → gS → Option (Int32 × gS)) (k85 : Int32 → Int32 → Int32 → Int32 → Int32 → Int32 → gS → Option (Int32 × gS)) (v1 : Int32) (v2 : Int32) (v3 : Int32) (v4 : Int32) (v5 : Int32) (v6 : Int32) (s0 : Int32) (s1 : Int32) (σ : gS) : Option (Int32 × gS) :=
  if gix s1 8 then gup (gpi σ 69 s1.toNatClampNeg s0) fun s17 => k85 v1 v2 v3 v4 v5 (v6 + (1 : Int32)) s17 else none
theorem s_M_droughtOf_j122 (d : Nat) (hd : 2 ≤ d) (k25 : Int32 → Int32 → gS → Option (Int32 × gS)) (hk25 : ∀ (v1 : Int32) (v2 : Int32) (τ : gS), S wI m_M_droughtOf d 25 [some (.ref 59), some (.int v1), some (.int v2), none, none, none, none] [] τ (k25 v1 v2 τ)) (k35 : Int32 → Int32 → Int32 → gS → Option (Int32 × gS)) (hk35 : ∀ (v1 : Int32) (v2 : Int32) (v3 : Int32) (τ : gS), S wI m_M_droughtOf d 35 [some (.ref 59), some (.int v1), some (.int v2), some (.int v3), none, none, none] [] τ (k35 v1 v2 v3 τ)) (k85 : Int32 → Int32 → Int32 → Int32 → Int32 → Int32 → gS → Option (Int32 × gS)) (hk85 : ∀ (v1 : Int32) (v2 : Int32) (v3 : Int32) (v4 : Int32) (v5 : Int32) (v6 : Int32) (τ : gS), S wI m_M_droughtOf d 85 [some (.ref 59), some (.int v1), some (.int v2), some (.int v3), some (.int v4), some (.int v5), some (.int v6)] [] τ (k85 v1 v2 v3 v4 v5 v6 τ)) (v1 : Int32) (v2 : Int32) (v3 : Int32) (v4 : Int32) (v5 : Int32) (v6 : Int32) (s0 : Int32) (s1 : Int32) (σ : gS) : S wI m_M_droughtOf d 122 [some (.ref 59), some (.int v1), some (.int v2), some (.int v3), some (.int v4), some (.int v5), some (.int v6)] [.int s0, .int s1, .ref 69] σ (f_M_droughtOf_j122 k25 k35 k85 v1 v2 v3 v4 v5 v6 s0 s1 σ) := by
  unfold f_M_droughtOf_j122
  refine S.chk (fun h16 => ?_)
  refine S.of1 (pc2 := 123) (fun Q => g_iast ga_69 (gix_in h16) d_M_droughtOf_122) ?_
  refine S.gup (fun s17 => ?_)
  refine S.of1 (pc2 := 126) (L2 := [some (.ref 59), some (.int v1), some (.int v2), some (.int v3), some (.int v4), some (.int v5), some (.int (v6 + (1 : Int32)))]) (fun Q => g_iinc d_M_droughtOf_123 rfl (congrArg (fun z => v6 + z) (by decide)) (Nat.le_of_ble_eq_true rfl) rfl) ?_
  refine S.of1 (pc2 := 85) (fun Q => g_goto d_M_droughtOf_126 rfl) ?_
  exact S.wk (L2 := [some (.ref 59), some (.int v1), some (.int v2), some (.int v3), some (.int v4), some (.int v5), some (.int (v6 + (1 : Int32)))]) (And.intro rfl (And.intro rfl (And.intro rfl (And.intro rfl (And.intro rfl (And.intro rfl (And.intro rfl trivial))))))) (hk85 v1 v2 v3 v4 v5 (v6 + (1 : Int32)) s17)
def f_M_droughtOf_L85 (k25 : Int32 → Int32 → gS → Option (Int32 × gS)) (k35 : Int32 → Int32 → Int32 → gS → Option (Int32 × gS)) : Nat → Int32 → Int32 → Int32 → Int32 → Int32 → Int32 → gS → Option (Int32 × gS)
  | 0, _, _, _, _, _, _, _ => none
  | n + 1, v1, v2, v3, v4, v5, v6, σ =>
  if (8 : Int32) ≤ v6 then k35 (v1 + (1 : Int32)) v2 (v3 + (1 : Int32)) σ else if gix v6 8 then if (σ.1 69 v6.toNatClampNeg) = v4 then f_M_droughtOf_j122 k25 k35 (fun v1 v2 v3 v4 v5 v6 σ => f_M_droughtOf_L85 k25 k35 n v1 v2 v3 v4 v5 v6 σ) v1 v2 v3 v4 v5 v6 v5 v6 σ else if gix v6 8 then f_M_droughtOf_j122 k25 k35 (fun v1 v2 v3 v4 v5 v6 σ => f_M_droughtOf_L85 k25 k35 n v1 v2 v3 v4 v5 v6 σ) v1 v2 v3 v4 v5 v6 (σ.1 69 v6.toNatClampNeg) v6 σ else none else none
theorem s_M_droughtOf_L85 (d : Nat) (hd : 2 ≤ d) (k25 : Int32 → Int32 → gS → Option (Int32 × gS)) (hk25 : ∀ (v1 : Int32) (v2 : Int32) (τ : gS), S wI m_M_droughtOf d 25 [some (.ref 59), some (.int v1), some (.int v2), none, none, none, none] [] τ (k25 v1 v2 τ)) (k35 : Int32 → Int32 → Int32 → gS → Option (Int32 × gS)) (hk35 : ∀ (v1 : Int32) (v2 : Int32) (v3 : Int32) (τ : gS), S wI m_M_droughtOf d 35 [some (.ref 59), some (.int v1), some (.int v2), some (.int v3), none, none, none] [] τ (k35 v1 v2 v3 τ)) : ∀ (n : Nat) (v1 : Int32) (v2 : Int32) (v3 : Int32) (v4 : Int32) (v5 : Int32) (v6 : Int32) (σ : gS), S wI m_M_droughtOf d 85 [some (.ref 59), some (.int v1), some (.int v2), some (.int v3), some (.int v4), some (.int v5), some (.int v6)] [] σ (f_M_droughtOf_L85 k25 k35 n v1 v2 v3 v4 v5 v6 σ) := by
  intro n
  induction n with
  | zero =>
    intros
    unfold f_M_droughtOf_L85
    exact S.no
  | succ n ih =>
    intro v1 v2 v3 v4 v5 v6 σ
    unfold f_M_droughtOf_L85
    refine S.of1 (pc2 := 87) (fun Q => g_iload d_M_droughtOf_85 rfl) ?_
    refine S.of1 (pc2 := 89) (fun Q => g_bipush (v := (8 : Int32)) d_M_droughtOf_87 (by decide)) ?_
    refine S.br (c := (8 : Int32) ≤ v6) (t := 129) (e := 92) (fun Q kt kf => g_icmp_ge d_M_droughtOf_89 rfl kt kf) (fun h13 => ?_) (fun h13 => ?_)
    · refine S.of1 (pc2 := 132) (L2 := [some (.ref 59), some (.int (v1 + (1 : Int32))), some (.int v2), some (.int v3), some (.int v4), some (.int v5), some (.int v6)]) (fun Q => g_iinc d_M_droughtOf_129 rfl (congrArg (fun z => v1 + z) (by decide)) (Nat.le_of_ble_eq_true rfl) rfl) ?_
      refine S.of1 (pc2 := 135) (L2 := [some (.ref 59), some (.int (v1 + (1 : Int32))), some (.int v2), some (.int (v3 + (1 : Int32))), some (.int v4), some (.int v5), some (.int v6)]) (fun Q => g_iinc d_M_droughtOf_132 rfl (congrArg (fun z => v3 + z) (by decide)) (Nat.le_of_ble_eq_true rfl) rfl) ?_
      refine S.of1 (pc2 := 35) (fun Q => g_goto d_M_droughtOf_135 rfl) ?_
      exact S.wk (L2 := [some (.ref 59), some (.int (v1 + (1 : Int32))), some (.int v2), some (.int (v3 + (1 : Int32))), none, none, none]) (And.intro rfl (And.intro rfl (And.intro rfl (And.intro rfl trivial)))) (hk35 (v1 + (1 : Int32)) v2 (v3 + (1 : Int32)) σ)
    · refine S.of1 (pc2 := 93) (fun Q => g_aload_n d_M_droughtOf_92 rfl) ?_
      refine S.of1 (pc2 := 96) (fun Q => g_getr fl_RX11_37 gc_59_19 d_M_droughtOf_93) ?_
      refine S.of1 (pc2 := 98) (fun Q => g_iload d_M_droughtOf_96 rfl) ?_
      refine S.of1 (pc2 := 99) (fun Q => g_aload_n d_M_droughtOf_98 rfl) ?_
      refine S.of1 (pc2 := 102) (fun Q => g_getr fl_RX11_37 gc_59_19 d_M_droughtOf_99) ?_
      refine S.of1 (pc2 := 104) (fun Q => g_iload d_M_droughtOf_102 rfl) ?_
      refine S.chk (fun h14 => ?_)
      refine S.of1 (pc2 := 105) (fun Q => g_iald ga_69 (gix_in h14) d_M_droughtOf_104) ?_
      refine S.of1 (pc2 := 107) (fun Q => g_iload d_M_droughtOf_105 rfl) ?_
      refine S.br (c := (σ.1 69 v6.toNatClampNeg) = v4) (t := 110) (e := 115) (fun Q kt kf => g_icmp_ne d_M_droughtOf_107 rfl kf kt) (fun h15 => ?_) (fun h15 => ?_)
      · refine S.of1 (pc2 := 112) (fun Q => g_iload d_M_droughtOf_110 rfl) ?_
        refine S.of1 (pc2 := 122) (fun Q => g_goto d_M_droughtOf_112 rfl) ?_
        exact S.wk (L2 := [some (.ref 59), some (.int v1), some (.int v2), some (.int v3), some (.int v4), some (.int v5), some (.int v6)]) (And.intro rfl (And.intro rfl (And.intro rfl (And.intro rfl (And.intro rfl (And.intro rfl (And.intro rfl trivial))))))) (s_M_droughtOf_j122 d hd k25 hk25 k35 hk35 (fun v1 v2 v3 v4 v5 v6 σ => f_M_droughtOf_L85 k25 k35 n v1 v2 v3 v4 v5 v6 σ) (fun v1 v2 v3 v4 v5 v6 τ => ih v1 v2 v3 v4 v5 v6 τ) v1 v2 v3 v4 v5 v6 v5 v6 σ)
      · refine S.of1 (pc2 := 116) (fun Q => g_aload_n d_M_droughtOf_115 rfl) ?_
        refine S.of1 (pc2 := 119) (fun Q => g_getr fl_RX11_37 gc_59_19 d_M_droughtOf_116) ?_
        refine S.of1 (pc2 := 121) (fun Q => g_iload d_M_droughtOf_119 rfl) ?_
        refine S.chk (fun h18 => ?_)
        refine S.of1 (pc2 := 122) (fun Q => g_iald ga_69 (gix_in h18) d_M_droughtOf_121) ?_
        exact S.wk (L2 := [some (.ref 59), some (.int v1), some (.int v2), some (.int v3), some (.int v4), some (.int v5), some (.int v6)]) (And.intro rfl (And.intro rfl (And.intro rfl (And.intro rfl (And.intro rfl (And.intro rfl (And.intro rfl trivial))))))) (s_M_droughtOf_j122 d hd k25 hk25 k35 hk35 (fun v1 v2 v3 v4 v5 v6 σ => f_M_droughtOf_L85 k25 k35 n v1 v2 v3 v4 v5 v6 σ) (fun v1 v2 v3 v4 v5 v6 τ => ih v1 v2 v3 v4 v5 v6 τ) v1 v2 v3 v4 v5 v6 (σ.1 69 v6.toNatClampNeg) v6 σ)
def f_M_droughtOf_L35 (k25 : Int32 → Int32 → gS → Option (Int32 × gS)) : Nat → Int32 → Int32 → Int32 → gS → Option (Int32 × gS)
  | 0, _, _, _, _ => none
  | n + 1, v1, v2, v3, σ =>
  if v2 ≤ v3 then k25 v1 (v2 + (1 : Int32)) σ else if gix v2 43 then if gix (σ.1 60 v2.toNatClampNeg) 8 then glt (σ.1 69 (σ.1 60 v2.toNatClampNeg).toNatClampNeg) fun x6 => if gix v3 43 then if gix (σ.1 60 v3.toNatClampNeg) 8 then glt (σ.1 69 (σ.1 60 v3.toNatClampNeg).toNatClampNeg) fun x9 => (f_M_agree v2 v3 σ).bind fun q10 => if q10 = 0 then (fun v1 v2 v3 σ => f_M_droughtOf_L35 k25 n v1 v2 v3 σ) v1 v2 (v3 + (1 : Int32)) σ else if x6 = x9 then (fun v1 v2 v3 σ => f_M_droughtOf_L35 k25 n v1 v2 v3 σ) v1 v2 (v3 + (1 : Int32)) σ else f_M_droughtOf_L85 k25 (fun v1 v2 v3 σ => f_M_droughtOf_L35 k25 n v1 v2 v3 σ) gfu v1 v2 v3 x6 x9 (0 : Int32) σ else none else none else none else none
theorem s_M_droughtOf_L35 (d : Nat) (hd : 2 ≤ d) (k25 : Int32 → Int32 → gS → Option (Int32 × gS)) (hk25 : ∀ (v1 : Int32) (v2 : Int32) (τ : gS), S wI m_M_droughtOf d 25 [some (.ref 59), some (.int v1), some (.int v2), none, none, none, none] [] τ (k25 v1 v2 τ)) : ∀ (n : Nat) (v1 : Int32) (v2 : Int32) (v3 : Int32) (σ : gS), S wI m_M_droughtOf d 35 [some (.ref 59), some (.int v1), some (.int v2), some (.int v3), none, none, none] [] σ (f_M_droughtOf_L35 k25 n v1 v2 v3 σ) := by
  intro n
  induction n with
  | zero =>
    intros
    unfold f_M_droughtOf_L35
    exact S.no
  | succ n ih =>
    intro v1 v2 v3 σ
    unfold f_M_droughtOf_L35
    refine S.of1 (pc2 := 36) (fun Q => g_iload_n d_M_droughtOf_35 rfl) ?_
    refine S.of1 (pc2 := 37) (fun Q => g_iload_n d_M_droughtOf_36 rfl) ?_
    refine S.br (c := v2 ≤ v3) (t := 138) (e := 40) (fun Q kt kf => g_icmp_ge d_M_droughtOf_37 rfl kt kf) (fun h3 => ?_) (fun h3 => ?_)
    · refine S.of1 (pc2 := 141) (L2 := [some (.ref 59), some (.int v1), some (.int (v2 + (1 : Int32))), some (.int v3), none, none, none]) (fun Q => g_iinc d_M_droughtOf_138 rfl (congrArg (fun z => v2 + z) (by decide)) (Nat.le_of_ble_eq_true rfl) rfl) ?_
      refine S.of1 (pc2 := 25) (fun Q => g_goto d_M_droughtOf_141 rfl) ?_
      exact S.wk (L2 := [some (.ref 59), some (.int v1), some (.int (v2 + (1 : Int32))), none, none, none, none]) (And.intro rfl (And.intro rfl (And.intro rfl trivial))) (hk25 v1 (v2 + (1 : Int32)) σ)
    · refine S.of1 (pc2 := 41) (fun Q => g_aload_n d_M_droughtOf_40 rfl) ?_
      refine S.of1 (pc2 := 44) (fun Q => g_getr fl_RX11_37 gc_59_19 d_M_droughtOf_41) ?_
      refine S.of1 (pc2 := 45) (fun Q => g_aload_n d_M_droughtOf_44 rfl) ?_
      refine S.of1 (pc2 := 48) (fun Q => g_getr fl_RX11_9 gc_59_0 d_M_droughtOf_45) ?_
      refine S.of1 (pc2 := 49) (fun Q => g_iload_n d_M_droughtOf_48 rfl) ?_
      refine S.chk (fun h4 => ?_)
      refine S.of1 (pc2 := 50) (fun Q => g_iald ga_60 (gix_in h4) d_M_droughtOf_49) ?_
      refine S.chk (fun h5 => ?_)
      refine S.of1 (pc2 := 51) (fun Q => g_iald ga_69 (gix_in h5) d_M_droughtOf_50) ?_
      refine S.of1 (pc2 := 53) (L2 := [some (.ref 59), some (.int v1), some (.int v2), some (.int v3), some (.int (σ.1 69 (σ.1 60 v2.toNatClampNeg).toNatClampNeg)), none, none]) (fun Q => g_istore d_M_droughtOf_51 (Nat.le_of_ble_eq_true rfl) rfl) ?_
      refine S.glt (x := (σ.1 69 (σ.1 60 v2.toNatClampNeg).toNatClampNeg)) (Lf := fun y => [some (.ref 59), some (.int v1), some (.int v2), some (.int v3), some (.int y), none, none]) (fun x6 => ?_)
      refine S.of1 (pc2 := 54) (fun Q => g_aload_n d_M_droughtOf_53 rfl) ?_
      refine S.of1 (pc2 := 57) (fun Q => g_getr fl_RX11_37 gc_59_19 d_M_droughtOf_54) ?_
      refine S.of1 (pc2 := 58) (fun Q => g_aload_n d_M_droughtOf_57 rfl) ?_
      refine S.of1 (pc2 := 61) (fun Q => g_getr fl_RX11_9 gc_59_0 d_M_droughtOf_58) ?_
      refine S.of1 (pc2 := 62) (fun Q => g_iload_n d_M_droughtOf_61 rfl) ?_
      refine S.chk (fun h7 => ?_)
      refine S.of1 (pc2 := 63) (fun Q => g_iald ga_60 (gix_in h7) d_M_droughtOf_62) ?_
      refine S.chk (fun h8 => ?_)
      refine S.of1 (pc2 := 64) (fun Q => g_iald ga_69 (gix_in h8) d_M_droughtOf_63) ?_
      refine S.of1 (pc2 := 66) (L2 := [some (.ref 59), some (.int v1), some (.int v2), some (.int v3), some (.int x6), some (.int (σ.1 69 (σ.1 60 v3.toNatClampNeg).toNatClampNeg)), none]) (fun Q => g_istore d_M_droughtOf_64 (Nat.le_of_ble_eq_true rfl) rfl) ?_
      refine S.glt (x := (σ.1 69 (σ.1 60 v3.toNatClampNeg).toNatClampNeg)) (Lf := fun y => [some (.ref 59), some (.int v1), some (.int v2), some (.int v3), some (.int x6), some (.int y), none]) (fun x9 => ?_)
      refine S.of1 (pc2 := 67) (fun Q => g_aload_n d_M_droughtOf_66 rfl) ?_
      refine S.of1 (pc2 := 68) (fun Q => g_iload_n d_M_droughtOf_67 rfl) ?_
      refine S.of1 (pc2 := 69) (fun Q => g_iload_n d_M_droughtOf_68 rfl) ?_
      refine S.call_rI (pc3 := 72) rfl (c_M_agree (d - 1) (by omega) v2 v3 σ) (fun Q => g_callV (M2 := m_M_agree) (vs := [.int v2, .int v3]) (st := []) lv_RX11_202 gk_59 rfl rfl (Nat.le_of_ble_eq_true rfl) (by omega) (Nat.le_of_ble_eq_true rfl) rfl d_M_droughtOf_69) (fun q10 => ?_)
      refine S.br (c := q10 = 0) (t := 132) (e := 75) (fun Q kt kf => g_if_eq d_M_droughtOf_72 rfl kt kf) (fun h11 => ?_) (fun h11 => ?_)
      · refine S.of1 (pc2 := 135) (L2 := [some (.ref 59), some (.int v1), some (.int v2), some (.int (v3 + (1 : Int32))), some (.int x6), some (.int x9), none]) (fun Q => g_iinc d_M_droughtOf_132 rfl (congrArg (fun z => v3 + z) (by decide)) (Nat.le_of_ble_eq_true rfl) rfl) ?_
        refine S.of1 (pc2 := 35) (fun Q => g_goto d_M_droughtOf_135 rfl) ?_
        exact S.wk (L2 := [some (.ref 59), some (.int v1), some (.int v2), some (.int (v3 + (1 : Int32))), none, none, none]) (And.intro rfl (And.intro rfl (And.intro rfl (And.intro rfl trivial)))) (ih v1 v2 (v3 + (1 : Int32)) σ)
      · refine S.of1 (pc2 := 77) (fun Q => g_iload d_M_droughtOf_75 rfl) ?_
        refine S.of1 (pc2 := 79) (fun Q => g_iload d_M_droughtOf_77 rfl) ?_
        refine S.br (c := x6 = x9) (t := 132) (e := 82) (fun Q kt kf => g_icmp_eq d_M_droughtOf_79 rfl kt kf) (fun h12 => ?_) (fun h12 => ?_)
        · refine S.of1 (pc2 := 135) (L2 := [some (.ref 59), some (.int v1), some (.int v2), some (.int (v3 + (1 : Int32))), some (.int x6), some (.int x9), none]) (fun Q => g_iinc d_M_droughtOf_132 rfl (congrArg (fun z => v3 + z) (by decide)) (Nat.le_of_ble_eq_true rfl) rfl) ?_
          refine S.of1 (pc2 := 35) (fun Q => g_goto d_M_droughtOf_135 rfl) ?_
          exact S.wk (L2 := [some (.ref 59), some (.int v1), some (.int v2), some (.int (v3 + (1 : Int32))), none, none, none]) (And.intro rfl (And.intro rfl (And.intro rfl (And.intro rfl trivial)))) (ih v1 v2 (v3 + (1 : Int32)) σ)
        · refine S.of1 (pc2 := 83) (fun Q => g_iconst (v := (0 : Int32)) d_M_droughtOf_82 (by decide)) ?_
          refine S.of1 (pc2 := 85) (L2 := [some (.ref 59), some (.int v1), some (.int v2), some (.int v3), some (.int x6), some (.int x9), some (.int (0 : Int32))]) (fun Q => g_istore d_M_droughtOf_83 (Nat.le_of_ble_eq_true rfl) rfl) ?_
          exact S.wk (L2 := [some (.ref 59), some (.int v1), some (.int v2), some (.int v3), some (.int x6), some (.int x9), some (.int (0 : Int32))]) (And.intro rfl (And.intro rfl (And.intro rfl (And.intro rfl (And.intro rfl (And.intro rfl (And.intro rfl trivial))))))) (s_M_droughtOf_L85 d hd k25 hk25 (fun v1 v2 v3 σ => f_M_droughtOf_L35 k25 n v1 v2 v3 σ) (fun v1 v2 v3 τ => ih v1 v2 v3 τ) gfu v1 v2 v3 x6 x9 (0 : Int32) σ)
def f_M_droughtOf_L25 : Nat → Int32 → Int32 → gS → Option (Int32 × gS)
  | 0, _, _, _ => none
  | n + 1, v1, v2, σ =>
  if (σ.1 59 6) ≤ v2 then some (v1, σ) else f_M_droughtOf_L35 (fun v1 v2 σ => f_M_droughtOf_L25 n v1 v2 σ) gfu v1 v2 (0 : Int32) σ
theorem s_M_droughtOf_L25 (d : Nat) (hd : 2 ≤ d) : ∀ (n : Nat) (v1 : Int32) (v2 : Int32) (σ : gS), S wI m_M_droughtOf d 25 [some (.ref 59), some (.int v1), some (.int v2), none, none, none, none] [] σ (f_M_droughtOf_L25 n v1 v2 σ) := by
  intro n
  induction n with
  | zero =>
    intros
    unfold f_M_droughtOf_L25
    exact S.no
  | succ n ih =>
    intro v1 v2 σ
    unfold f_M_droughtOf_L25
    refine S.of1 (pc2 := 26) (fun Q => g_iload_n d_M_droughtOf_25 rfl) ?_
    refine S.of1 (pc2 := 27) (fun Q => g_aload_n d_M_droughtOf_26 rfl) ?_
    refine S.of1 (pc2 := 30) (fun Q => g_geti fl_RX11_81 gc_59_6 d_M_droughtOf_27) ?_
    refine S.br (c := (σ.1 59 6) ≤ v2) (t := 144) (e := 33) (fun Q kt kf => g_icmp_ge d_M_droughtOf_30 rfl kt kf) (fun h2 => ?_) (fun h2 => ?_)
    · refine S.of1 (pc2 := 145) (fun Q => g_iload_n d_M_droughtOf_144 rfl) ?_
      exact S.ret (fun Q hq => g_iret rfl d_M_droughtOf_145 hq)
    · refine S.of1 (pc2 := 34) (fun Q => g_iconst (v := (0 : Int32)) d_M_droughtOf_33 (by decide)) ?_
      refine S.of1 (pc2 := 35) (L2 := [some (.ref 59), some (.int v1), some (.int v2), some (.int (0 : Int32)), none, none, none]) (fun Q => g_istore_n d_M_droughtOf_34 (Nat.le_of_ble_eq_true rfl) rfl) ?_
      exact S.wk (L2 := [some (.ref 59), some (.int v1), some (.int v2), some (.int (0 : Int32)), none, none, none]) (And.intro rfl (And.intro rfl (And.intro rfl (And.intro rfl trivial)))) (s_M_droughtOf_L35 d hd (fun v1 v2 σ => f_M_droughtOf_L25 n v1 v2 σ) (fun v1 v2 τ => ih v1 v2 τ) gfu v1 v2 (0 : Int32) σ)
def f_M_droughtOf_L2 : Nat → Int32 → gS → Option (Int32 × gS)
  | 0, _, _ => none
  | n + 1, v1, σ =>
  if (8 : Int32) ≤ v1 then f_M_droughtOf_L25 gfu (0 : Int32) (0 : Int32) σ else if gix v1 8 then gup (gpi σ 69 v1.toNatClampNeg v1) fun s20 => (fun v1 σ => f_M_droughtOf_L2 n v1 σ) (v1 + (1 : Int32)) s20 else none
theorem s_M_droughtOf_L2 (d : Nat) (hd : 2 ≤ d) : ∀ (n : Nat) (v1 : Int32) (σ : gS), S wI m_M_droughtOf d 2 [some (.ref 59), some (.int v1), none, none, none, none, none] [] σ (f_M_droughtOf_L2 n v1 σ) := by
  intro n
  induction n with
  | zero =>
    intros
    unfold f_M_droughtOf_L2
    exact S.no
  | succ n ih =>
    intro v1 σ
    unfold f_M_droughtOf_L2
    refine S.of1 (pc2 := 3) (fun Q => g_iload_n d_M_droughtOf_2 rfl) ?_
    refine S.of1 (pc2 := 5) (fun Q => g_bipush (v := (8 : Int32)) d_M_droughtOf_3 (by decide)) ?_
    refine S.br (c := (8 : Int32) ≤ v1) (t := 21) (e := 8) (fun Q kt kf => g_icmp_ge d_M_droughtOf_5 rfl kt kf) (fun h1 => ?_) (fun h1 => ?_)
    · refine S.of1 (pc2 := 22) (fun Q => g_iconst (v := (0 : Int32)) d_M_droughtOf_21 (by decide)) ?_
      refine S.of1 (pc2 := 23) (L2 := [some (.ref 59), some (.int (0 : Int32)), none, none, none, none, none]) (fun Q => g_istore_n d_M_droughtOf_22 (Nat.le_of_ble_eq_true rfl) rfl) ?_
      refine S.of1 (pc2 := 24) (fun Q => g_iconst (v := (0 : Int32)) d_M_droughtOf_23 (by decide)) ?_
      refine S.of1 (pc2 := 25) (L2 := [some (.ref 59), some (.int (0 : Int32)), some (.int (0 : Int32)), none, none, none, none]) (fun Q => g_istore_n d_M_droughtOf_24 (Nat.le_of_ble_eq_true rfl) rfl) ?_
      exact S.wk (L2 := [some (.ref 59), some (.int (0 : Int32)), some (.int (0 : Int32)), none, none, none, none]) (And.intro rfl (And.intro rfl (And.intro rfl trivial))) (s_M_droughtOf_L25 d hd gfu (0 : Int32) (0 : Int32) σ)
    · refine S.of1 (pc2 := 9) (fun Q => g_aload_n d_M_droughtOf_8 rfl) ?_
      refine S.of1 (pc2 := 12) (fun Q => g_getr fl_RX11_37 gc_59_19 d_M_droughtOf_9) ?_
      refine S.of1 (pc2 := 13) (fun Q => g_iload_n d_M_droughtOf_12 rfl) ?_
      refine S.of1 (pc2 := 14) (fun Q => g_iload_n d_M_droughtOf_13 rfl) ?_
      refine S.chk (fun h19 => ?_)
      refine S.of1 (pc2 := 15) (fun Q => g_iast ga_69 (gix_in h19) d_M_droughtOf_14) ?_
      refine S.gup (fun s20 => ?_)
      refine S.of1 (pc2 := 18) (L2 := [some (.ref 59), some (.int (v1 + (1 : Int32))), none, none, none, none, none]) (fun Q => g_iinc d_M_droughtOf_15 rfl (congrArg (fun z => v1 + z) (by decide)) (Nat.le_of_ble_eq_true rfl) rfl) ?_
      refine S.of1 (pc2 := 2) (fun Q => g_goto d_M_droughtOf_18 rfl) ?_
      exact S.wk (L2 := [some (.ref 59), some (.int (v1 + (1 : Int32))), none, none, none, none, none]) (And.intro rfl (And.intro rfl trivial)) (ih (v1 + (1 : Int32)) s20)
def f_M_droughtOf (σ : gS) : Option (Int32 × gS) :=
  f_M_droughtOf_L2 gfu (0 : Int32) σ
theorem c_M_droughtOf (d : Nat) (hd : 2 ≤ d) (σ : gS) : C wI d m_M_droughtOf [.ref 59] σ (f_M_droughtOf σ) := by
  unfold f_M_droughtOf
  refine C.of (by decide +kernel) (Nat.le_of_ble_eq_true rfl) (L := [some (.ref 59), none, none, none, none, none, none]) rfl ?_
  refine S.of1 (pc2 := 1) (fun Q => g_iconst (v := (0 : Int32)) d_M_droughtOf_0 (by decide)) ?_
  refine S.of1 (pc2 := 2) (L2 := [some (.ref 59), some (.int (0 : Int32)), none, none, none, none, none]) (fun Q => g_istore_n d_M_droughtOf_1 (Nat.le_of_ble_eq_true rfl) rfl) ?_
  exact S.wk (L2 := [some (.ref 59), some (.int (0 : Int32)), none, none, none, none, none]) (And.intro rfl (And.intro rfl trivial)) (s_M_droughtOf_L2 d hd gfu (0 : Int32) σ)
def f_M_aloneOf_j106 (k82 : Int32 → Int32 → gS → Option (Int32 × gS)) (v2 : Int32) (s0 : Int32) (s1 : Int32) (σ : gS) : Option (Int32 × gS) :=
  k82 (s1 ||| s0) (v2 + (1 : Int32)) σ
theorem s_M_aloneOf_j106 (d : Nat) (hd : 2 ≤ d) (k82 : Int32 → Int32 → gS → Option (Int32 × gS)) (hk82 : ∀ (v1 : Int32) (v2 : Int32) (τ : gS), S wI m_M_aloneOf d 82 [some (.ref 59), some (.int v1), some (.int v2)] [] τ (k82 v1 v2 τ)) (v2 : Int32) (s0 : Int32) (s1 : Int32) (σ : gS) : S wI m_M_aloneOf d 106 [some (.ref 59), none, some (.int v2)] [.int s0, .int s1] σ (f_M_aloneOf_j106 k82 v2 s0 s1 σ) := by
  unfold f_M_aloneOf_j106
  refine S.of1 (pc2 := 107) (fun Q => g_ior d_M_aloneOf_106) ?_
  refine S.of1 (pc2 := 108) (L2 := [some (.ref 59), some (.int (s1 ||| s0)), some (.int v2)]) (fun Q => g_istore_n d_M_aloneOf_107 (Nat.le_of_ble_eq_true rfl) rfl) ?_
  refine S.of1 (pc2 := 111) (L2 := [some (.ref 59), some (.int (s1 ||| s0)), some (.int (v2 + (1 : Int32)))]) (fun Q => g_iinc d_M_aloneOf_108 rfl (congrArg (fun z => v2 + z) (by decide)) (Nat.le_of_ble_eq_true rfl) rfl) ?_
  refine S.of1 (pc2 := 82) (fun Q => g_goto d_M_aloneOf_111 rfl) ?_
  exact S.wk (L2 := [some (.ref 59), some (.int (s1 ||| s0)), some (.int (v2 + (1 : Int32)))]) (And.intro rfl (And.intro rfl (And.intro rfl trivial))) (hk82 (s1 ||| s0) (v2 + (1 : Int32)) σ)
def f_M_aloneOf_L82 : Nat → Int32 → Int32 → gS → Option (Int32 × gS)
  | 0, _, _, _ => none
  | n + 1, v1, v2, σ =>
  if (6 : Int32) ≤ v2 then some (v1, σ) else if gix v2 6 then if (σ.1 70 v2.toNatClampNeg) = (1 : Int32) then f_M_aloneOf_j106 (fun v1 v2 σ => f_M_aloneOf_L82 n v1 v2 σ) v2 ((1 : Int32) <<< (v2 &&& 31)) v1 σ else f_M_aloneOf_j106 (fun v1 v2 σ => f_M_aloneOf_L82 n v1 v2 σ) v2 (0 : Int32) v1 σ else none
theorem s_M_aloneOf_L82 (d : Nat) (hd : 2 ≤ d) : ∀ (n : Nat) (v1 : Int32) (v2 : Int32) (σ : gS), S wI m_M_aloneOf d 82 [some (.ref 59), some (.int v1), some (.int v2)] [] σ (f_M_aloneOf_L82 n v1 v2 σ) := by
  intro n
  induction n with
  | zero =>
    intros
    unfold f_M_aloneOf_L82
    exact S.no
  | succ n ih =>
    intro v1 v2 σ
    unfold f_M_aloneOf_L82
    refine S.of1 (pc2 := 83) (fun Q => g_iload_n d_M_aloneOf_82 rfl) ?_
    refine S.of1 (pc2 := 85) (fun Q => g_bipush (v := (6 : Int32)) d_M_aloneOf_83 (by decide)) ?_
    refine S.br (c := (6 : Int32) ≤ v2) (t := 114) (e := 88) (fun Q kt kf => g_icmp_ge d_M_aloneOf_85 rfl kt kf) (fun h3 => ?_) (fun h3 => ?_)
    · refine S.of1 (pc2 := 115) (fun Q => g_iload_n d_M_aloneOf_114 rfl) ?_
      exact S.ret (fun Q hq => g_iret rfl d_M_aloneOf_115 hq)
    · refine S.of1 (pc2 := 89) (fun Q => g_iload_n d_M_aloneOf_88 rfl) ?_
      refine S.of1 (pc2 := 90) (fun Q => g_aload_n d_M_aloneOf_89 rfl) ?_
      refine S.of1 (pc2 := 93) (fun Q => g_getr fl_RX11_40 gc_59_20 d_M_aloneOf_90) ?_
      refine S.of1 (pc2 := 94) (fun Q => g_iload_n d_M_aloneOf_93 rfl) ?_
      refine S.chk (fun h4 => ?_)
      refine S.of1 (pc2 := 95) (fun Q => g_iald ga_70 (gix_in h4) d_M_aloneOf_94) ?_
      refine S.of1 (pc2 := 96) (fun Q => g_iconst (v := (1 : Int32)) d_M_aloneOf_95 (by decide)) ?_
      refine S.br (c := (σ.1 70 v2.toNatClampNeg) = (1 : Int32)) (t := 99) (e := 105) (fun Q kt kf => g_icmp_ne d_M_aloneOf_96 rfl kf kt) (fun h5 => ?_) (fun h5 => ?_)
      · refine S.of1 (pc2 := 100) (fun Q => g_iconst (v := (1 : Int32)) d_M_aloneOf_99 (by decide)) ?_
        refine S.of1 (pc2 := 101) (fun Q => g_iload_n d_M_aloneOf_100 rfl) ?_
        refine S.of1 (pc2 := 102) (fun Q => g_ishl d_M_aloneOf_101) ?_
        refine S.of1 (pc2 := 106) (fun Q => g_goto d_M_aloneOf_102 rfl) ?_
        exact S.wk (L2 := [some (.ref 59), none, some (.int v2)]) (And.intro rfl (And.intro rfl trivial)) (s_M_aloneOf_j106 d hd (fun v1 v2 σ => f_M_aloneOf_L82 n v1 v2 σ) (fun v1 v2 τ => ih v1 v2 τ) v2 ((1 : Int32) <<< (v2 &&& 31)) v1 σ)
      · refine S.of1 (pc2 := 106) (fun Q => g_iconst (v := (0 : Int32)) d_M_aloneOf_105 (by decide)) ?_
        exact S.wk (L2 := [some (.ref 59), none, some (.int v2)]) (And.intro rfl (And.intro rfl trivial)) (s_M_aloneOf_j106 d hd (fun v1 v2 σ => f_M_aloneOf_L82 n v1 v2 σ) (fun v1 v2 τ => ih v1 v2 τ) v2 (0 : Int32) v1 σ)
def f_M_aloneOf_j64 (k23 : Int32 → gS → Option (Int32 × gS)) (k33 : Int32 → Int32 → gS → Option (Int32 × gS)) (v1 : Int32) (v2 : Int32) (s0 : Int32) (s1 : Int32) (s2 : Int32) (σ : gS) : Option (Int32 × gS) :=
  if gix s2 6 then gup (gpi σ 70 s2.toNatClampNeg (s1 + s0)) fun s12 => k33 v1 (v2 + (1 : Int32)) s12 else none
theorem s_M_aloneOf_j64 (d : Nat) (hd : 2 ≤ d) (k23 : Int32 → gS → Option (Int32 × gS)) (hk23 : ∀ (v1 : Int32) (τ : gS), S wI m_M_aloneOf d 23 [some (.ref 59), some (.int v1), none] [] τ (k23 v1 τ)) (k33 : Int32 → Int32 → gS → Option (Int32 × gS)) (hk33 : ∀ (v1 : Int32) (v2 : Int32) (τ : gS), S wI m_M_aloneOf d 33 [some (.ref 59), some (.int v1), some (.int v2)] [] τ (k33 v1 v2 τ)) (v1 : Int32) (v2 : Int32) (s0 : Int32) (s1 : Int32) (s2 : Int32) (σ : gS) : S wI m_M_aloneOf d 64 [some (.ref 59), some (.int v1), some (.int v2)] [.int s0, .int s1, .int s2, .ref 70] σ (f_M_aloneOf_j64 k23 k33 v1 v2 s0 s1 s2 σ) := by
  unfold f_M_aloneOf_j64
  refine S.of1 (pc2 := 65) (fun Q => g_iadd d_M_aloneOf_64) ?_
  refine S.chk (fun h11 => ?_)
  refine S.of1 (pc2 := 66) (fun Q => g_iast ga_70 (gix_in h11) d_M_aloneOf_65) ?_
  refine S.gup (fun s12 => ?_)
  refine S.of1 (pc2 := 69) (L2 := [some (.ref 59), some (.int v1), some (.int (v2 + (1 : Int32)))]) (fun Q => g_iinc d_M_aloneOf_66 rfl (congrArg (fun z => v2 + z) (by decide)) (Nat.le_of_ble_eq_true rfl) rfl) ?_
  refine S.of1 (pc2 := 33) (fun Q => g_goto d_M_aloneOf_69 rfl) ?_
  exact S.wk (L2 := [some (.ref 59), some (.int v1), some (.int (v2 + (1 : Int32)))]) (And.intro rfl (And.intro rfl (And.intro rfl trivial))) (hk33 v1 (v2 + (1 : Int32)) s12)
def f_M_aloneOf_L33 (k23 : Int32 → gS → Option (Int32 × gS)) : Nat → Int32 → Int32 → gS → Option (Int32 × gS)
  | 0, _, _, _ => none
  | n + 1, v1, v2, σ =>
  if v1 ≤ v2 then k23 (v1 + (1 : Int32)) σ else (f_M_agreedOn v1 v2 σ).bind fun q7 => if gix q7 6 then (f_M_agree v1 v2 σ).bind fun q9 => if q9 = 0 then f_M_aloneOf_j64 k23 (fun v1 v2 σ => f_M_aloneOf_L33 k23 n v1 v2 σ) v1 v2 (0 : Int32) (σ.1 70 q7.toNatClampNeg) q7 σ else f_M_aloneOf_j64 k23 (fun v1 v2 σ => f_M_aloneOf_L33 k23 n v1 v2 σ) v1 v2 (1 : Int32) (σ.1 70 q7.toNatClampNeg) q7 σ else none
theorem s_M_aloneOf_L33 (d : Nat) (hd : 2 ≤ d) (k23 : Int32 → gS → Option (Int32 × gS)) (hk23 : ∀ (v1 : Int32) (τ : gS), S wI m_M_aloneOf d 23 [some (.ref 59), some (.int v1), none] [] τ (k23 v1 τ)) : ∀ (n : Nat) (v1 : Int32) (v2 : Int32) (σ : gS), S wI m_M_aloneOf d 33 [some (.ref 59), some (.int v1), some (.int v2)] [] σ (f_M_aloneOf_L33 k23 n v1 v2 σ) := by
  intro n
  induction n with
  | zero =>
    intros
    unfold f_M_aloneOf_L33
    exact S.no
  | succ n ih =>
    intro v1 v2 σ
    unfold f_M_aloneOf_L33
    refine S.of1 (pc2 := 34) (fun Q => g_iload_n d_M_aloneOf_33 rfl) ?_
    refine S.of1 (pc2 := 35) (fun Q => g_iload_n d_M_aloneOf_34 rfl) ?_
    refine S.br (c := v1 ≤ v2) (t := 72) (e := 38) (fun Q kt kf => g_icmp_ge d_M_aloneOf_35 rfl kt kf) (fun h6 => ?_) (fun h6 => ?_)
    · refine S.of1 (pc2 := 75) (L2 := [some (.ref 59), some (.int (v1 + (1 : Int32))), some (.int v2)]) (fun Q => g_iinc d_M_aloneOf_72 rfl (congrArg (fun z => v1 + z) (by decide)) (Nat.le_of_ble_eq_true rfl) rfl) ?_
      refine S.of1 (pc2 := 23) (fun Q => g_goto d_M_aloneOf_75 rfl) ?_
      exact S.wk (L2 := [some (.ref 59), some (.int (v1 + (1 : Int32))), none]) (And.intro rfl (And.intro rfl trivial)) (hk23 (v1 + (1 : Int32)) σ)
    · refine S.of1 (pc2 := 39) (fun Q => g_aload_n d_M_aloneOf_38 rfl) ?_
      refine S.of1 (pc2 := 42) (fun Q => g_getr fl_RX11_40 gc_59_20 d_M_aloneOf_39) ?_
      refine S.of1 (pc2 := 43) (fun Q => g_aload_n d_M_aloneOf_42 rfl) ?_
      refine S.of1 (pc2 := 44) (fun Q => g_iload_n d_M_aloneOf_43 rfl) ?_
      refine S.of1 (pc2 := 45) (fun Q => g_iload_n d_M_aloneOf_44 rfl) ?_
      refine S.call_rI (pc3 := 48) rfl (c_M_agreedOn (d - 1) (by omega) v1 v2 σ) (fun Q => g_callV (M2 := m_M_agreedOn) (vs := [.int v1, .int v2]) (st := [.ref 70]) lv_RX11_205 gk_59 rfl rfl (Nat.le_of_ble_eq_true rfl) (by omega) (Nat.le_of_ble_eq_true rfl) rfl d_M_aloneOf_45) (fun q7 => ?_)
      refine S.of1 (pc2 := 49) (fun Q => g_dup2 d_M_aloneOf_48 rfl rfl) ?_
      refine S.chk (fun h8 => ?_)
      refine S.of1 (pc2 := 50) (fun Q => g_iald ga_70 (gix_in h8) d_M_aloneOf_49) ?_
      refine S.of1 (pc2 := 51) (fun Q => g_aload_n d_M_aloneOf_50 rfl) ?_
      refine S.of1 (pc2 := 52) (fun Q => g_iload_n d_M_aloneOf_51 rfl) ?_
      refine S.of1 (pc2 := 53) (fun Q => g_iload_n d_M_aloneOf_52 rfl) ?_
      refine S.call_rI (pc3 := 56) rfl (c_M_agree (d - 1) (by omega) v1 v2 σ) (fun Q => g_callV (M2 := m_M_agree) (vs := [.int v1, .int v2]) (st := [.int (σ.1 70 q7.toNatClampNeg), .int q7, .ref 70]) lv_RX11_202 gk_59 rfl rfl (Nat.le_of_ble_eq_true rfl) (by omega) (Nat.le_of_ble_eq_true rfl) rfl d_M_aloneOf_53) (fun q9 => ?_)
      refine S.br (c := q9 = 0) (t := 63) (e := 59) (fun Q kt kf => g_if_eq d_M_aloneOf_56 rfl kt kf) (fun h10 => ?_) (fun h10 => ?_)
      · refine S.of1 (pc2 := 64) (fun Q => g_iconst (v := (0 : Int32)) d_M_aloneOf_63 (by decide)) ?_
        exact S.wk (L2 := [some (.ref 59), some (.int v1), some (.int v2)]) (And.intro rfl (And.intro rfl (And.intro rfl trivial))) (s_M_aloneOf_j64 d hd k23 hk23 (fun v1 v2 σ => f_M_aloneOf_L33 k23 n v1 v2 σ) (fun v1 v2 τ => ih v1 v2 τ) v1 v2 (0 : Int32) (σ.1 70 q7.toNatClampNeg) q7 σ)
      · refine S.of1 (pc2 := 60) (fun Q => g_iconst (v := (1 : Int32)) d_M_aloneOf_59 (by decide)) ?_
        refine S.of1 (pc2 := 64) (fun Q => g_goto d_M_aloneOf_60 rfl) ?_
        exact S.wk (L2 := [some (.ref 59), some (.int v1), some (.int v2)]) (And.intro rfl (And.intro rfl (And.intro rfl trivial))) (s_M_aloneOf_j64 d hd k23 hk23 (fun v1 v2 σ => f_M_aloneOf_L33 k23 n v1 v2 σ) (fun v1 v2 τ => ih v1 v2 τ) v1 v2 (1 : Int32) (σ.1 70 q7.toNatClampNeg) q7 σ)
def f_M_aloneOf_L23 : Nat → Int32 → gS → Option (Int32 × gS)
  | 0, _, _ => none
  | n + 1, v1, σ =>
  if (σ.1 59 6) ≤ v1 then f_M_aloneOf_L82 gfu (0 : Int32) (0 : Int32) σ else f_M_aloneOf_L33 (fun v1 σ => f_M_aloneOf_L23 n v1 σ) gfu v1 (0 : Int32) σ
theorem s_M_aloneOf_L23 (d : Nat) (hd : 2 ≤ d) : ∀ (n : Nat) (v1 : Int32) (σ : gS), S wI m_M_aloneOf d 23 [some (.ref 59), some (.int v1), none] [] σ (f_M_aloneOf_L23 n v1 σ) := by
  intro n
  induction n with
  | zero =>
    intros
    unfold f_M_aloneOf_L23
    exact S.no
  | succ n ih =>
    intro v1 σ
    unfold f_M_aloneOf_L23
    refine S.of1 (pc2 := 24) (fun Q => g_iload_n d_M_aloneOf_23 rfl) ?_
    refine S.of1 (pc2 := 25) (fun Q => g_aload_n d_M_aloneOf_24 rfl) ?_
    refine S.of1 (pc2 := 28) (fun Q => g_geti fl_RX11_81 gc_59_6 d_M_aloneOf_25) ?_
    refine S.br (c := (σ.1 59 6) ≤ v1) (t := 78) (e := 31) (fun Q kt kf => g_icmp_ge d_M_aloneOf_28 rfl kt kf) (fun h2 => ?_) (fun h2 => ?_)
    · refine S.of1 (pc2 := 79) (fun Q => g_iconst (v := (0 : Int32)) d_M_aloneOf_78 (by decide)) ?_
      refine S.of1 (pc2 := 80) (L2 := [some (.ref 59), some (.int (0 : Int32)), none]) (fun Q => g_istore_n d_M_aloneOf_79 (Nat.le_of_ble_eq_true rfl) rfl) ?_
      refine S.of1 (pc2 := 81) (fun Q => g_iconst (v := (0 : Int32)) d_M_aloneOf_80 (by decide)) ?_
      refine S.of1 (pc2 := 82) (L2 := [some (.ref 59), some (.int (0 : Int32)), some (.int (0 : Int32))]) (fun Q => g_istore_n d_M_aloneOf_81 (Nat.le_of_ble_eq_true rfl) rfl) ?_
      exact S.wk (L2 := [some (.ref 59), some (.int (0 : Int32)), some (.int (0 : Int32))]) (And.intro rfl (And.intro rfl (And.intro rfl trivial))) (s_M_aloneOf_L82 d hd gfu (0 : Int32) (0 : Int32) σ)
    · refine S.of1 (pc2 := 32) (fun Q => g_iconst (v := (0 : Int32)) d_M_aloneOf_31 (by decide)) ?_
      refine S.of1 (pc2 := 33) (L2 := [some (.ref 59), some (.int v1), some (.int (0 : Int32))]) (fun Q => g_istore_n d_M_aloneOf_32 (Nat.le_of_ble_eq_true rfl) rfl) ?_
      exact S.wk (L2 := [some (.ref 59), some (.int v1), some (.int (0 : Int32))]) (And.intro rfl (And.intro rfl (And.intro rfl trivial))) (s_M_aloneOf_L33 d hd (fun v1 σ => f_M_aloneOf_L23 n v1 σ) (fun v1 τ => ih v1 τ) gfu v1 (0 : Int32) σ)
def f_M_aloneOf_L2 : Nat → Int32 → gS → Option (Int32 × gS)
  | 0, _, _ => none
  | n + 1, v1, σ =>
  if (6 : Int32) ≤ v1 then f_M_aloneOf_L23 gfu (0 : Int32) σ else if gix v1 6 then gup (gpi σ 70 v1.toNatClampNeg (0 : Int32)) fun s14 => (fun v1 σ => f_M_aloneOf_L2 n v1 σ) (v1 + (1 : Int32)) s14 else none
theorem s_M_aloneOf_L2 (d : Nat) (hd : 2 ≤ d) : ∀ (n : Nat) (v1 : Int32) (σ : gS), S wI m_M_aloneOf d 2 [some (.ref 59), some (.int v1), none] [] σ (f_M_aloneOf_L2 n v1 σ) := by
  intro n
  induction n with
  | zero =>
    intros
    unfold f_M_aloneOf_L2
    exact S.no
  | succ n ih =>
    intro v1 σ
    unfold f_M_aloneOf_L2
    refine S.of1 (pc2 := 3) (fun Q => g_iload_n d_M_aloneOf_2 rfl) ?_
    refine S.of1 (pc2 := 5) (fun Q => g_bipush (v := (6 : Int32)) d_M_aloneOf_3 (by decide)) ?_
    refine S.br (c := (6 : Int32) ≤ v1) (t := 21) (e := 8) (fun Q kt kf => g_icmp_ge d_M_aloneOf_5 rfl kt kf) (fun h1 => ?_) (fun h1 => ?_)
    · refine S.of1 (pc2 := 22) (fun Q => g_iconst (v := (0 : Int32)) d_M_aloneOf_21 (by decide)) ?_
      refine S.of1 (pc2 := 23) (L2 := [some (.ref 59), some (.int (0 : Int32)), none]) (fun Q => g_istore_n d_M_aloneOf_22 (Nat.le_of_ble_eq_true rfl) rfl) ?_
      exact S.wk (L2 := [some (.ref 59), some (.int (0 : Int32)), none]) (And.intro rfl (And.intro rfl trivial)) (s_M_aloneOf_L23 d hd gfu (0 : Int32) σ)
    · refine S.of1 (pc2 := 9) (fun Q => g_aload_n d_M_aloneOf_8 rfl) ?_
      refine S.of1 (pc2 := 12) (fun Q => g_getr fl_RX11_40 gc_59_20 d_M_aloneOf_9) ?_
      refine S.of1 (pc2 := 13) (fun Q => g_iload_n d_M_aloneOf_12 rfl) ?_
      refine S.of1 (pc2 := 14) (fun Q => g_iconst (v := (0 : Int32)) d_M_aloneOf_13 (by decide)) ?_
      refine S.chk (fun h13 => ?_)
      refine S.of1 (pc2 := 15) (fun Q => g_iast ga_70 (gix_in h13) d_M_aloneOf_14) ?_
      refine S.gup (fun s14 => ?_)
      refine S.of1 (pc2 := 18) (L2 := [some (.ref 59), some (.int (v1 + (1 : Int32))), none]) (fun Q => g_iinc d_M_aloneOf_15 rfl (congrArg (fun z => v1 + z) (by decide)) (Nat.le_of_ble_eq_true rfl) rfl) ?_
      refine S.of1 (pc2 := 2) (fun Q => g_goto d_M_aloneOf_18 rfl) ?_
      exact S.wk (L2 := [some (.ref 59), some (.int (v1 + (1 : Int32))), none]) (And.intro rfl (And.intro rfl trivial)) (ih (v1 + (1 : Int32)) s14)
def f_M_aloneOf (σ : gS) : Option (Int32 × gS) :=
  f_M_aloneOf_L2 gfu (0 : Int32) σ
theorem c_M_aloneOf (d : Nat) (hd : 2 ≤ d) (σ : gS) : C wI d m_M_aloneOf [.ref 59] σ (f_M_aloneOf σ) := by
  unfold f_M_aloneOf
  refine C.of (by decide +kernel) (Nat.le_of_ble_eq_true rfl) (L := [some (.ref 59), none, none]) rfl ?_
  refine S.of1 (pc2 := 1) (fun Q => g_iconst (v := (0 : Int32)) d_M_aloneOf_0 (by decide)) ?_
  refine S.of1 (pc2 := 2) (L2 := [some (.ref 59), some (.int (0 : Int32)), none]) (fun Q => g_istore_n d_M_aloneOf_1 (Nat.le_of_ble_eq_true rfl) rfl) ?_
  exact S.wk (L2 := [some (.ref 59), some (.int (0 : Int32)), none]) (And.intro rfl (And.intro rfl trivial)) (s_M_aloneOf_L2 d hd gfu (0 : Int32) σ)
def f_M_pairs (v1 : Int32) (σ : gS) : Option (Int32 × gS) :=
  (f_M_within (v1.toInt64) (0 : Int64) (2 : Int64)).bind fun q1 => if q1 = 0 then some ((-1 : Int32), σ) else (f_M_allSayNow σ).bind fun s3 => if v1 = 0 then (f_M_pairsOf s3).bind fun q5 => some (q5.1, q5.2) else if v1 = (1 : Int32) then (f_M_droughtOf s3).bind fun q7 => some (q7.1, q7.2) else (f_M_aloneOf s3).bind fun q8 => some (q8.1, q8.2)
theorem c_M_pairs (d : Nat) (hd : 60 ≤ d) (v1 : Int32) (σ : gS) : C wI d m_M_pairs [.ref 59, .int v1] σ (f_M_pairs v1 σ) := by
  unfold f_M_pairs
  refine C.of (by decide +kernel) (Nat.le_of_ble_eq_true rfl) (L := [some (.ref 59), some (.int v1)]) rfl ?_
  refine S.of1 (pc2 := 1) (fun Q => g_iload_n d_M_pairs_0 rfl) ?_
  refine S.of1 (pc2 := 2) (fun Q => g_i2l d_M_pairs_1) ?_
  refine S.of1 (pc2 := 3) (fun Q => g_lconst (v := (0 : Int64)) d_M_pairs_2 (by decide)) ?_
  refine S.of1 (pc2 := 6) (fun Q => g_ldc2 (v := (2 : Int64)) d_M_pairs_3 w_1311) ?_
  refine S.call_rI (pc3 := 9) rfl (c_M_within (d - 1) (by omega) (v1.toInt64) (0 : Int64) (2 : Int64) σ) (fun Q => g_callS (M2 := m_M_within) (vs := [.long (v1.toInt64), .long (0 : Int64), .long (2 : Int64)]) (st := []) ls_RX11_84 rfl (Nat.le_of_ble_eq_true rfl) (by omega) (Nat.le_of_ble_eq_true rfl) rfl d_M_pairs_6) (fun q1 => ?_)
  refine S.br (c := q1 = 0) (t := 12) (e := 14) (fun Q kt kf => g_if_ne d_M_pairs_9 rfl kf kt) (fun h2 => ?_) (fun h2 => ?_)
  · refine S.of1 (pc2 := 13) (fun Q => g_iconst (v := (-1 : Int32)) d_M_pairs_12 (by decide)) ?_
    exact S.ret (fun Q hq => g_iret rfl d_M_pairs_13 hq)
  · refine S.of1 (pc2 := 15) (fun Q => g_aload_n d_M_pairs_14 rfl) ?_
    refine S.call_wV (pc3 := 18) rfl (c_M_allSayNow (d - 1) (by omega) σ) (fun Q => g_callV (M2 := m_M_allSayNow) (vs := []) (st := []) lv_RX11_208 gk_59 rfl rfl (Nat.le_of_ble_eq_true rfl) (by omega) (Nat.le_of_ble_eq_true rfl) rfl d_M_pairs_15) (fun s3 => ?_)
    refine S.of1 (pc2 := 19) (fun Q => g_iload_n d_M_pairs_18 rfl) ?_
    refine S.br (c := v1 = 0) (t := 22) (e := 29) (fun Q kt kf => g_if_ne d_M_pairs_19 rfl kf kt) (fun h4 => ?_) (fun h4 => ?_)
    · refine S.of1 (pc2 := 23) (fun Q => g_aload_n d_M_pairs_22 rfl) ?_
      refine S.call_wI (pc3 := 26) rfl (c_M_pairsOf (d - 1) (by omega) s3) (fun Q => g_callV (M2 := m_M_pairsOf) (vs := []) (st := []) lv_RX11_235 gk_59 rfl rfl (Nat.le_of_ble_eq_true rfl) (by omega) (Nat.le_of_ble_eq_true rfl) rfl d_M_pairs_23) (fun q5 => ?_)
      refine S.of1 (pc2 := 45) (fun Q => g_goto d_M_pairs_26 rfl) ?_
      exact S.ret (fun Q hq => g_iret rfl d_M_pairs_45 hq)
    · refine S.of1 (pc2 := 30) (fun Q => g_iload_n d_M_pairs_29 rfl) ?_
      refine S.of1 (pc2 := 31) (fun Q => g_iconst (v := (1 : Int32)) d_M_pairs_30 (by decide)) ?_
      refine S.br (c := v1 = (1 : Int32)) (t := 34) (e := 41) (fun Q kt kf => g_icmp_ne d_M_pairs_31 rfl kf kt) (fun h6 => ?_) (fun h6 => ?_)
      · refine S.of1 (pc2 := 35) (fun Q => g_aload_n d_M_pairs_34 rfl) ?_
        refine S.call_wI (pc3 := 38) rfl (c_M_droughtOf (d - 1) (by omega) s3) (fun Q => g_callV (M2 := m_M_droughtOf) (vs := []) (st := []) lv_RX11_238 gk_59 rfl rfl (Nat.le_of_ble_eq_true rfl) (by omega) (Nat.le_of_ble_eq_true rfl) rfl d_M_pairs_35) (fun q7 => ?_)
        refine S.of1 (pc2 := 45) (fun Q => g_goto d_M_pairs_38 rfl) ?_
        exact S.ret (fun Q hq => g_iret rfl d_M_pairs_45 hq)
      · refine S.of1 (pc2 := 42) (fun Q => g_aload_n d_M_pairs_41 rfl) ?_
        refine S.call_wI (pc3 := 45) rfl (c_M_aloneOf (d - 1) (by omega) s3) (fun Q => g_callV (M2 := m_M_aloneOf) (vs := []) (st := []) lv_RX11_241 gk_59 rfl rfl (Nat.le_of_ble_eq_true rfl) (by omega) (Nat.le_of_ble_eq_true rfl) rfl d_M_pairs_42) (fun q8 => ?_)
        exact S.ret (fun Q hq => g_iret rfl d_M_pairs_45 hq)
def f_M_strangers_L33 : Nat → Int32 → Int32 → gS → Option (Int32 × gS)
  | 0, _, _, _ => none
  | n + 1, v1, v2, σ =>
  if (σ.1 59 6) ≤ v2 then some ((2 : Int32), σ) else if gix v2 10 then if (σ.1 67 v2.toNatClampNeg) < v1 then (fun v1 v2 σ => f_M_strangers_L33 n v1 v2 σ) v1 (v2 + (1 : Int32)) σ else if gix v2 10 then if (σ.1 60 41) < ((σ.1 67 v2.toNatClampNeg) - v1) then (fun v1 v2 σ => f_M_strangers_L33 n v1 v2 σ) v1 (v2 + (1 : Int32)) σ else some ((1 : Int32), σ) else none else none
theorem s_M_strangers_L33 (d : Nat) (hd : 60 ≤ d) : ∀ (n : Nat) (v1 : Int32) (v2 : Int32) (σ : gS), S wI m_M_strangers d 33 [some (.ref 59), some (.int v1), some (.int v2)] [] σ (f_M_strangers_L33 n v1 v2 σ) := by
  intro n
  induction n with
  | zero =>
    intros
    unfold f_M_strangers_L33
    exact S.no
  | succ n ih =>
    intro v1 v2 σ
    unfold f_M_strangers_L33
    refine S.of1 (pc2 := 34) (fun Q => g_iload_n d_M_strangers_33 rfl) ?_
    refine S.of1 (pc2 := 35) (fun Q => g_aload_n d_M_strangers_34 rfl) ?_
    refine S.of1 (pc2 := 38) (fun Q => g_geti fl_RX11_81 gc_59_6 d_M_strangers_35) ?_
    refine S.br (c := (σ.1 59 6) ≤ v2) (t := 77) (e := 41) (fun Q kt kf => g_icmp_ge d_M_strangers_38 rfl kt kf) (fun h8 => ?_) (fun h8 => ?_)
    · refine S.of1 (pc2 := 78) (fun Q => g_iconst (v := (2 : Int32)) d_M_strangers_77 (by decide)) ?_
      exact S.ret (fun Q hq => g_iret rfl d_M_strangers_78 hq)
    · refine S.of1 (pc2 := 42) (fun Q => g_aload_n d_M_strangers_41 rfl) ?_
      refine S.of1 (pc2 := 45) (fun Q => g_getr fl_RX11_31 gc_59_17 d_M_strangers_42) ?_
      refine S.of1 (pc2 := 46) (fun Q => g_iload_n d_M_strangers_45 rfl) ?_
      refine S.chk (fun h9 => ?_)
      refine S.of1 (pc2 := 47) (fun Q => g_iald ga_67 (gix_in h9) d_M_strangers_46) ?_
      refine S.of1 (pc2 := 48) (fun Q => g_iload_n d_M_strangers_47 rfl) ?_
      refine S.br (c := (σ.1 67 v2.toNatClampNeg) < v1) (t := 71) (e := 51) (fun Q kt kf => g_icmp_lt d_M_strangers_48 rfl kt kf) (fun h10 => ?_) (fun h10 => ?_)
      · refine S.of1 (pc2 := 74) (L2 := [some (.ref 59), some (.int v1), some (.int (v2 + (1 : Int32)))]) (fun Q => g_iinc d_M_strangers_71 rfl (congrArg (fun z => v2 + z) (by decide)) (Nat.le_of_ble_eq_true rfl) rfl) ?_
        refine S.of1 (pc2 := 33) (fun Q => g_goto d_M_strangers_74 rfl) ?_
        exact S.wk (L2 := [some (.ref 59), some (.int v1), some (.int (v2 + (1 : Int32)))]) (And.intro rfl (And.intro rfl (And.intro rfl trivial))) (ih v1 (v2 + (1 : Int32)) σ)
      · refine S.of1 (pc2 := 52) (fun Q => g_aload_n d_M_strangers_51 rfl) ?_
        refine S.of1 (pc2 := 55) (fun Q => g_getr fl_RX11_31 gc_59_17 d_M_strangers_52) ?_
        refine S.of1 (pc2 := 56) (fun Q => g_iload_n d_M_strangers_55 rfl) ?_
        refine S.chk (fun h11 => ?_)
        refine S.of1 (pc2 := 57) (fun Q => g_iald ga_67 (gix_in h11) d_M_strangers_56) ?_
        refine S.of1 (pc2 := 58) (fun Q => g_iload_n d_M_strangers_57 rfl) ?_
        refine S.of1 (pc2 := 59) (fun Q => g_isub d_M_strangers_58) ?_
        refine S.of1 (pc2 := 60) (fun Q => g_aload_n d_M_strangers_59 rfl) ?_
        refine S.of1 (pc2 := 63) (fun Q => g_getr fl_RX11_9 gc_59_0 d_M_strangers_60) ?_
        refine S.of1 (pc2 := 65) (fun Q => g_bipush (v := (41 : Int32)) d_M_strangers_63 (by decide)) ?_
        refine S.of1 (pc2 := 66) (fun Q => g_iald ga_60 (vp_lit rfl) d_M_strangers_65) ?_
        refine S.br (c := (σ.1 60 41) < ((σ.1 67 v2.toNatClampNeg) - v1)) (t := 71) (e := 69) (fun Q kt kf => g_icmp_gt d_M_strangers_66 rfl kt kf) (fun h12 => ?_) (fun h12 => ?_)
        · refine S.of1 (pc2 := 74) (L2 := [some (.ref 59), some (.int v1), some (.int (v2 + (1 : Int32)))]) (fun Q => g_iinc d_M_strangers_71 rfl (congrArg (fun z => v2 + z) (by decide)) (Nat.le_of_ble_eq_true rfl) rfl) ?_
          refine S.of1 (pc2 := 33) (fun Q => g_goto d_M_strangers_74 rfl) ?_
          exact S.wk (L2 := [some (.ref 59), some (.int v1), some (.int (v2 + (1 : Int32)))]) (And.intro rfl (And.intro rfl (And.intro rfl trivial))) (ih v1 (v2 + (1 : Int32)) σ)
        · refine S.of1 (pc2 := 70) (fun Q => g_iconst (v := (1 : Int32)) d_M_strangers_69 (by decide)) ?_
          exact S.ret (fun Q hq => g_iret rfl d_M_strangers_70 hq)
def f_M_strangers (v1 : Int32) (σ : gS) : Option (Int32 × gS) :=
  (f_M_isWeather (v1.toInt64)).bind fun q1 => if q1 = 0 then some ((-1 : Int32), σ) else (f_M_allSayNow σ).bind fun s3 => (f_M_everybody s3).bind fun q4 => (f_M_happenedBy q4 s3).bind fun q5 => (f_M_isIn q5 v1).bind fun q6 => if q6 = 0 then f_M_strangers_L33 gfu v1 (0 : Int32) s3 else some ((0 : Int32), s3)
theorem c_M_strangers (d : Nat) (hd : 60 ≤ d) (v1 : Int32) (σ : gS) : C wI d m_M_strangers [.ref 59, .int v1] σ (f_M_strangers v1 σ) := by
  unfold f_M_strangers
  refine C.of (by decide +kernel) (Nat.le_of_ble_eq_true rfl) (L := [some (.ref 59), some (.int v1), none]) rfl ?_
  refine S.of1 (pc2 := 1) (fun Q => g_iload_n d_M_strangers_0 rfl) ?_
  refine S.of1 (pc2 := 2) (fun Q => g_i2l d_M_strangers_1) ?_
  refine S.call_rI (pc3 := 5) rfl (c_M_isWeather (d - 1) (by omega) (v1.toInt64) σ) (fun Q => g_callS (M2 := m_M_isWeather) (vs := [.long (v1.toInt64)]) (st := []) ls_RX11_119 rfl (Nat.le_of_ble_eq_true rfl) (by omega) (Nat.le_of_ble_eq_true rfl) rfl d_M_strangers_2) (fun q1 => ?_)
  refine S.br (c := q1 = 0) (t := 8) (e := 10) (fun Q kt kf => g_if_ne d_M_strangers_5 rfl kf kt) (fun h2 => ?_) (fun h2 => ?_)
  · refine S.of1 (pc2 := 9) (fun Q => g_iconst (v := (-1 : Int32)) d_M_strangers_8 (by decide)) ?_
    exact S.ret (fun Q hq => g_iret rfl d_M_strangers_9 hq)
  · refine S.of1 (pc2 := 11) (fun Q => g_aload_n d_M_strangers_10 rfl) ?_
    refine S.call_wV (pc3 := 14) rfl (c_M_allSayNow (d - 1) (by omega) σ) (fun Q => g_callV (M2 := m_M_allSayNow) (vs := []) (st := []) lv_RX11_208 gk_59 rfl rfl (Nat.le_of_ble_eq_true rfl) (by omega) (Nat.le_of_ble_eq_true rfl) rfl d_M_strangers_11) (fun s3 => ?_)
    refine S.of1 (pc2 := 15) (fun Q => g_aload_n d_M_strangers_14 rfl) ?_
    refine S.of1 (pc2 := 16) (fun Q => g_aload_n d_M_strangers_15 rfl) ?_
    refine S.call_rI (pc3 := 19) rfl (c_M_everybody (d - 1) (by omega) s3) (fun Q => g_callV (M2 := m_M_everybody) (vs := []) (st := [.ref 59]) lv_RX11_211 gk_59 rfl rfl (Nat.le_of_ble_eq_true rfl) (by omega) (Nat.le_of_ble_eq_true rfl) rfl d_M_strangers_16) (fun q4 => ?_)
    refine S.call_rI (pc3 := 22) rfl (c_M_happenedBy (d - 1) (by omega) q4 s3) (fun Q => g_callV (M2 := m_M_happenedBy) (vs := [.int q4]) (st := []) lv_RX11_214 gk_59 rfl rfl (Nat.le_of_ble_eq_true rfl) (by omega) (Nat.le_of_ble_eq_true rfl) rfl d_M_strangers_19) (fun q5 => ?_)
    refine S.of1 (pc2 := 23) (fun Q => g_iload_n d_M_strangers_22 rfl) ?_
    refine S.call_rI (pc3 := 26) rfl (c_M_isIn (d - 1) (by omega) q5 v1 s3) (fun Q => g_callS (M2 := m_M_isIn) (vs := [.int q5, .int v1]) (st := []) ls_RX11_199 rfl (Nat.le_of_ble_eq_true rfl) (by omega) (Nat.le_of_ble_eq_true rfl) rfl d_M_strangers_23) (fun q6 => ?_)
    refine S.br (c := q6 = 0) (t := 31) (e := 29) (fun Q kt kf => g_if_eq d_M_strangers_26 rfl kt kf) (fun h7 => ?_) (fun h7 => ?_)
    · refine S.of1 (pc2 := 32) (fun Q => g_iconst (v := (0 : Int32)) d_M_strangers_31 (by decide)) ?_
      refine S.of1 (pc2 := 33) (L2 := [some (.ref 59), some (.int v1), some (.int (0 : Int32))]) (fun Q => g_istore_n d_M_strangers_32 (Nat.le_of_ble_eq_true rfl) rfl) ?_
      exact S.wk (L2 := [some (.ref 59), some (.int v1), some (.int (0 : Int32))]) (And.intro rfl (And.intro rfl (And.intro rfl trivial))) (s_M_strangers_L33 d hd gfu v1 (0 : Int32) s3)
    · refine S.of1 (pc2 := 30) (fun Q => g_iconst (v := (0 : Int32)) d_M_strangers_29 (by decide)) ?_
      exact S.ret (fun Q hq => g_iret rfl d_M_strangers_30 hq)
def f_M_saidMany_L2 (σ : gS) : Nat → Int32 → Int32 → Option Int32
  | 0, _, _ => none
  | n + 1, v1, v2 =>
  if (8 : Int32) ≤ v2 then some v2 else if gix v1 6 then if (σ.1 77 v1.toNatClampNeg) ≤ (((2 : Int32) * v2) + (1 : Int32)) then some v2 else if gix (((60 : Int32) * v1) + ((2 : Int32) * v2)) 360 then (f_M_isOne (σ.2 78 (((60 : Int32) * v1) + ((2 : Int32) * v2)).toNatClampNeg) σ).bind fun q5 => if q5 = 0 then some v2 else if gix ((((60 : Int32) * v1) + ((2 : Int32) * v2)) + (1 : Int32)) 360 then (f_M_isWeather (σ.2 78 ((((60 : Int32) * v1) + ((2 : Int32) * v2)) + (1 : Int32)).toNatClampNeg)).bind fun q8 => if q8 = 0 then some v2 else (fun v1 v2 => f_M_saidMany_L2 σ n v1 v2) v1 (v2 + (1 : Int32)) else none else none else none
theorem s_M_saidMany_L2 (d : Nat) (hd : 3 ≤ d) (σ : gS) : ∀ (n : Nat) (v1 : Int32) (v2 : Int32), S (rI σ) m_M_saidMany d 2 [some (.ref 59), some (.int v1), some (.int v2)] [] σ (f_M_saidMany_L2 σ n v1 v2) := by
  intro n
  induction n with
  | zero =>
    intros
    unfold f_M_saidMany_L2
    exact S.no
  | succ n ih =>
    intro v1 v2
    unfold f_M_saidMany_L2
    refine S.of1 (pc2 := 3) (fun Q => g_iload_n d_M_saidMany_2 rfl) ?_
    refine S.of1 (pc2 := 5) (fun Q => g_bipush (v := (8 : Int32)) d_M_saidMany_3 (by decide)) ?_
    refine S.br (c := (8 : Int32) ≤ v2) (t := 69) (e := 8) (fun Q kt kf => g_icmp_ge d_M_saidMany_5 rfl kt kf) (fun h1 => ?_) (fun h1 => ?_)
    · refine S.of1 (pc2 := 70) (fun Q => g_iload_n d_M_saidMany_69 rfl) ?_
      exact S.ret (fun Q hq => g_iret rfl d_M_saidMany_70 hq)
    · refine S.of1 (pc2 := 9) (fun Q => g_iconst (v := (2 : Int32)) d_M_saidMany_8 (by decide)) ?_
      refine S.of1 (pc2 := 10) (fun Q => g_iload_n d_M_saidMany_9 rfl) ?_
      refine S.of1 (pc2 := 11) (fun Q => g_imul d_M_saidMany_10) ?_
      refine S.of1 (pc2 := 12) (fun Q => g_iconst (v := (1 : Int32)) d_M_saidMany_11 (by decide)) ?_
      refine S.of1 (pc2 := 13) (fun Q => g_iadd d_M_saidMany_12) ?_
      refine S.of1 (pc2 := 14) (fun Q => g_aload_n d_M_saidMany_13 rfl) ?_
      refine S.of1 (pc2 := 17) (fun Q => g_getr fl_RX11_61 gc_59_37 d_M_saidMany_14) ?_
      refine S.of1 (pc2 := 18) (fun Q => g_iload_n d_M_saidMany_17 rfl) ?_
      refine S.chk (fun h2 => ?_)
      refine S.of1 (pc2 := 19) (fun Q => g_iald ga_77 (gix_in h2) d_M_saidMany_18) ?_
      refine S.br (c := (σ.1 77 v1.toNatClampNeg) ≤ (((2 : Int32) * v2) + (1 : Int32))) (t := 69) (e := 22) (fun Q kt kf => g_icmp_ge d_M_saidMany_19 rfl kt kf) (fun h3 => ?_) (fun h3 => ?_)
      · refine S.of1 (pc2 := 70) (fun Q => g_iload_n d_M_saidMany_69 rfl) ?_
        exact S.ret (fun Q hq => g_iret rfl d_M_saidMany_70 hq)
      · refine S.of1 (pc2 := 23) (fun Q => g_aload_n d_M_saidMany_22 rfl) ?_
        refine S.of1 (pc2 := 24) (fun Q => g_aload_n d_M_saidMany_23 rfl) ?_
        refine S.of1 (pc2 := 27) (fun Q => g_getr fl_RX11_64 gc_59_38 d_M_saidMany_24) ?_
        refine S.of1 (pc2 := 29) (fun Q => g_bipush (v := (60 : Int32)) d_M_saidMany_27 (by decide)) ?_
        refine S.of1 (pc2 := 30) (fun Q => g_iload_n d_M_saidMany_29 rfl) ?_
        refine S.of1 (pc2 := 31) (fun Q => g_imul d_M_saidMany_30) ?_
        refine S.of1 (pc2 := 32) (fun Q => g_iconst (v := (2 : Int32)) d_M_saidMany_31 (by decide)) ?_
        refine S.of1 (pc2 := 33) (fun Q => g_iload_n d_M_saidMany_32 rfl) ?_
        refine S.of1 (pc2 := 34) (fun Q => g_imul d_M_saidMany_33) ?_
        refine S.of1 (pc2 := 35) (fun Q => g_iadd d_M_saidMany_34) ?_
        refine S.chk (fun h4 => ?_)
        refine S.of1 (pc2 := 36) (fun Q => g_lald ga_78 (gix_in h4) d_M_saidMany_35) ?_
        refine S.call_rI (pc3 := 39) rfl (c_M_isOne (d - 1) (by omega) (σ.2 78 (((60 : Int32) * v1) + ((2 : Int32) * v2)).toNatClampNeg) σ) (fun Q => g_callV (M2 := m_M_isOne) (vs := [.long (σ.2 78 (((60 : Int32) * v1) + ((2 : Int32) * v2)).toNatClampNeg)]) (st := []) lv_RX11_111 gk_59 rfl rfl (Nat.le_of_ble_eq_true rfl) (by omega) (Nat.le_of_ble_eq_true rfl) rfl d_M_saidMany_36) (fun q5 => ?_)
        refine S.br (c := q5 = 0) (t := 69) (e := 42) (fun Q kt kf => g_if_eq d_M_saidMany_39 rfl kt kf) (fun h6 => ?_) (fun h6 => ?_)
        · refine S.of1 (pc2 := 70) (fun Q => g_iload_n d_M_saidMany_69 rfl) ?_
          exact S.ret (fun Q hq => g_iret rfl d_M_saidMany_70 hq)
        · refine S.of1 (pc2 := 43) (fun Q => g_aload_n d_M_saidMany_42 rfl) ?_
          refine S.of1 (pc2 := 46) (fun Q => g_getr fl_RX11_64 gc_59_38 d_M_saidMany_43) ?_
          refine S.of1 (pc2 := 48) (fun Q => g_bipush (v := (60 : Int32)) d_M_saidMany_46 (by decide)) ?_
          refine S.of1 (pc2 := 49) (fun Q => g_iload_n d_M_saidMany_48 rfl) ?_
          refine S.of1 (pc2 := 50) (fun Q => g_imul d_M_saidMany_49) ?_
          refine S.of1 (pc2 := 51) (fun Q => g_iconst (v := (2 : Int32)) d_M_saidMany_50 (by decide)) ?_
          refine S.of1 (pc2 := 52) (fun Q => g_iload_n d_M_saidMany_51 rfl) ?_
          refine S.of1 (pc2 := 53) (fun Q => g_imul d_M_saidMany_52) ?_
          refine S.of1 (pc2 := 54) (fun Q => g_iadd d_M_saidMany_53) ?_
          refine S.of1 (pc2 := 55) (fun Q => g_iconst (v := (1 : Int32)) d_M_saidMany_54 (by decide)) ?_
          refine S.of1 (pc2 := 56) (fun Q => g_iadd d_M_saidMany_55) ?_
          refine S.chk (fun h7 => ?_)
          refine S.of1 (pc2 := 57) (fun Q => g_lald ga_78 (gix_in h7) d_M_saidMany_56) ?_
          refine S.call_rI (pc3 := 60) rfl (c_M_isWeather (d - 1) (by omega) (σ.2 78 ((((60 : Int32) * v1) + ((2 : Int32) * v2)) + (1 : Int32)).toNatClampNeg) σ) (fun Q => g_callS (M2 := m_M_isWeather) (vs := [.long (σ.2 78 ((((60 : Int32) * v1) + ((2 : Int32) * v2)) + (1 : Int32)).toNatClampNeg)]) (st := []) ls_RX11_119 rfl (Nat.le_of_ble_eq_true rfl) (by omega) (Nat.le_of_ble_eq_true rfl) rfl d_M_saidMany_57) (fun q8 => ?_)
          refine S.br (c := q8 = 0) (t := 69) (e := 63) (fun Q kt kf => g_if_eq d_M_saidMany_60 rfl kt kf) (fun h9 => ?_) (fun h9 => ?_)
          · refine S.of1 (pc2 := 70) (fun Q => g_iload_n d_M_saidMany_69 rfl) ?_
            exact S.ret (fun Q hq => g_iret rfl d_M_saidMany_70 hq)
          · refine S.of1 (pc2 := 66) (L2 := [some (.ref 59), some (.int v1), some (.int (v2 + (1 : Int32)))]) (fun Q => g_iinc d_M_saidMany_63 rfl (congrArg (fun z => v2 + z) (by decide)) (Nat.le_of_ble_eq_true rfl) rfl) ?_
            refine S.of1 (pc2 := 2) (fun Q => g_goto d_M_saidMany_66 rfl) ?_
            exact S.wk (L2 := [some (.ref 59), some (.int v1), some (.int (v2 + (1 : Int32)))]) (And.intro rfl (And.intro rfl (And.intro rfl trivial))) (ih v1 (v2 + (1 : Int32)))
def f_M_saidMany (v1 : Int32) (σ : gS) : Option Int32 :=
  f_M_saidMany_L2 σ gfu v1 (0 : Int32)
theorem c_M_saidMany (d : Nat) (hd : 3 ≤ d) (v1 : Int32) (σ : gS) : C (rI σ) d m_M_saidMany [.ref 59, .int v1] σ (f_M_saidMany v1 σ) := by
  unfold f_M_saidMany
  refine C.of (by decide +kernel) (Nat.le_of_ble_eq_true rfl) (L := [some (.ref 59), some (.int v1), none]) rfl ?_
  refine S.of1 (pc2 := 1) (fun Q => g_iconst (v := (0 : Int32)) d_M_saidMany_0 (by decide)) ?_
  refine S.of1 (pc2 := 2) (L2 := [some (.ref 59), some (.int v1), some (.int (0 : Int32))]) (fun Q => g_istore_n d_M_saidMany_1 (Nat.le_of_ble_eq_true rfl) rfl) ?_
  exact S.wk (L2 := [some (.ref 59), some (.int v1), some (.int (0 : Int32))]) (And.intro rfl (And.intro rfl (And.intro rfl trivial))) (s_M_saidMany_L2 d hd σ gfu v1 (0 : Int32))
def f_M_weightOf_j77 (σ : gS) (k5 : Int32 → Int32 → Int64 → Int32 → Option Int64) (v1 : Int32) (v2 : Int32) (v5 : Int32) (s0 : Int64) (s1 : Int64) : Option Int64 :=
  k5 v1 v2 (s1 * s0) (v5 + (1 : Int32))
theorem s_M_weightOf_j77 (d : Nat) (hd : 4 ≤ d) (σ : gS) (k5 : Int32 → Int32 → Int64 → Int32 → Option Int64) (hk5 : ∀ (v1 : Int32) (v2 : Int32) (v3 : Int64) (v5 : Int32), S (rJ σ) m_M_weightOf d 5 [some (.ref 59), some (.int v1), some (.int v2), some (.long v3), none, some (.int v5), none] [] σ (k5 v1 v2 v3 v5)) (v1 : Int32) (v2 : Int32) (v5 : Int32) (s0 : Int64) (s1 : Int64) : S (rJ σ) m_M_weightOf d 77 [some (.ref 59), some (.int v1), some (.int v2), none, none, some (.int v5), none] [.long s0, .long s1] σ (f_M_weightOf_j77 σ k5 v1 v2 v5 s0 s1) := by
  unfold f_M_weightOf_j77
  refine S.of1 (pc2 := 78) (fun Q => g_lmul d_M_weightOf_77) ?_
  refine S.of1 (pc2 := 79) (L2 := [some (.ref 59), some (.int v1), some (.int v2), some (.long (s1 * s0)), none, some (.int v5), none]) (fun Q => g_lstore_n d_M_weightOf_78 (Nat.le_of_ble_eq_true rfl) rfl) ?_
  refine S.of1 (pc2 := 82) (L2 := [some (.ref 59), some (.int v1), some (.int v2), some (.long (s1 * s0)), none, some (.int (v5 + (1 : Int32))), none]) (fun Q => g_iinc d_M_weightOf_79 rfl (congrArg (fun z => v5 + z) (by decide)) (Nat.le_of_ble_eq_true rfl) rfl) ?_
  refine S.of1 (pc2 := 5) (fun Q => g_goto d_M_weightOf_82 rfl) ?_
  exact S.wk (L2 := [some (.ref 59), some (.int v1), some (.int v2), some (.long (s1 * s0)), none, some (.int (v5 + (1 : Int32))), none]) (And.intro rfl (And.intro rfl (And.intro rfl (And.intro rfl (And.intro rfl trivial))))) (hk5 v1 v2 (s1 * s0) (v5 + (1 : Int32)))
def f_M_weightOf_L5 (σ : gS) : Nat → Int32 → Int32 → Int64 → Int32 → Option Int64
  | 0, _, _, _, _ => none
  | n + 1, v1, v2, v3, v5 =>
  (f_M_saidMany v1 σ).bind fun q1 => if q1 ≤ v5 then some v3 else if gix (((60 : Int32) * v1) + ((2 : Int32) * v5)) 360 then if gix ((10 : Int32) + ((σ.2 78 (((60 : Int32) * v1) + ((2 : Int32) * v5)).toNatClampNeg).toInt32)) 43 then glt (σ.1 60 ((10 : Int32) + ((σ.2 78 (((60 : Int32) * v1) + ((2 : Int32) * v5)).toNatClampNeg).toInt32)).toNatClampNeg) fun x5 => if gix ((((60 : Int32) * v1) + ((2 : Int32) * v5)) + (1 : Int32)) 360 then if (lg_cmp (σ.2 78 ((((60 : Int32) * v1) + ((2 : Int32) * v5)) + (1 : Int32)).toNatClampNeg) (v2.toInt64)) = 0 then f_M_weightOf_j77 σ (fun v1 v2 v3 v5 => f_M_weightOf_L5 σ n v1 v2 v3 v5) v1 v2 v5 (((5 : Int32) * x5).toInt64) v3 else f_M_weightOf_j77 σ (fun v1 v2 v3 v5 => f_M_weightOf_L5 σ n v1 v2 v3 v5) v1 v2 v5 (((12 : Int32) - x5).toInt64) v3 else none else none else none
theorem s_M_weightOf_L5 (d : Nat) (hd : 4 ≤ d) (σ : gS) : ∀ (n : Nat) (v1 : Int32) (v2 : Int32) (v3 : Int64) (v5 : Int32), S (rJ σ) m_M_weightOf d 5 [some (.ref 59), some (.int v1), some (.int v2), some (.long v3), none, some (.int v5), none] [] σ (f_M_weightOf_L5 σ n v1 v2 v3 v5) := by
  intro n
  induction n with
  | zero =>
    intros
    unfold f_M_weightOf_L5
    exact S.no
  | succ n ih =>
    intro v1 v2 v3 v5
    unfold f_M_weightOf_L5
    refine S.of1 (pc2 := 7) (fun Q => g_iload d_M_weightOf_5 rfl) ?_
    refine S.of1 (pc2 := 8) (fun Q => g_aload_n d_M_weightOf_7 rfl) ?_
    refine S.of1 (pc2 := 9) (fun Q => g_iload_n d_M_weightOf_8 rfl) ?_
    refine S.call_rI (pc3 := 12) rfl (c_M_saidMany (d - 1) (by omega) v1 σ) (fun Q => g_callV (M2 := m_M_saidMany) (vs := [.int v1]) (st := [.int v5]) lv_RX11_244 gk_59 rfl rfl (Nat.le_of_ble_eq_true rfl) (by omega) (Nat.le_of_ble_eq_true rfl) rfl d_M_weightOf_9) (fun q1 => ?_)
    refine S.br (c := q1 ≤ v5) (t := 85) (e := 15) (fun Q kt kf => g_icmp_ge d_M_weightOf_12 rfl kt kf) (fun h2 => ?_) (fun h2 => ?_)
    · refine S.of1 (pc2 := 86) (fun Q => g_lload_n d_M_weightOf_85 rfl) ?_
      exact S.ret (fun Q hq => g_lret rfl d_M_weightOf_86 hq)
    · refine S.of1 (pc2 := 16) (fun Q => g_aload_n d_M_weightOf_15 rfl) ?_
      refine S.of1 (pc2 := 19) (fun Q => g_getr fl_RX11_9 gc_59_0 d_M_weightOf_16) ?_
      refine S.of1 (pc2 := 21) (fun Q => g_bipush (v := (10 : Int32)) d_M_weightOf_19 (by decide)) ?_
      refine S.of1 (pc2 := 22) (fun Q => g_aload_n d_M_weightOf_21 rfl) ?_
      refine S.of1 (pc2 := 25) (fun Q => g_getr fl_RX11_64 gc_59_38 d_M_weightOf_22) ?_
      refine S.of1 (pc2 := 27) (fun Q => g_bipush (v := (60 : Int32)) d_M_weightOf_25 (by decide)) ?_
      refine S.of1 (pc2 := 28) (fun Q => g_iload_n d_M_weightOf_27 rfl) ?_
      refine S.of1 (pc2 := 29) (fun Q => g_imul d_M_weightOf_28) ?_
      refine S.of1 (pc2 := 30) (fun Q => g_iconst (v := (2 : Int32)) d_M_weightOf_29 (by decide)) ?_
      refine S.of1 (pc2 := 32) (fun Q => g_iload d_M_weightOf_30 rfl) ?_
      refine S.of1 (pc2 := 33) (fun Q => g_imul d_M_weightOf_32) ?_
      refine S.of1 (pc2 := 34) (fun Q => g_iadd d_M_weightOf_33) ?_
      refine S.chk (fun h3 => ?_)
      refine S.of1 (pc2 := 35) (fun Q => g_lald ga_78 (gix_in h3) d_M_weightOf_34) ?_
      refine S.of1 (pc2 := 36) (fun Q => g_l2i d_M_weightOf_35) ?_
      refine S.of1 (pc2 := 37) (fun Q => g_iadd d_M_weightOf_36) ?_
      refine S.chk (fun h4 => ?_)
      refine S.of1 (pc2 := 38) (fun Q => g_iald ga_60 (gix_in h4) d_M_weightOf_37) ?_
      refine S.of1 (pc2 := 40) (L2 := [some (.ref 59), some (.int v1), some (.int v2), some (.long v3), none, some (.int v5), some (.int (σ.1 60 ((10 : Int32) + ((σ.2 78 (((60 : Int32) * v1) + ((2 : Int32) * v5)).toNatClampNeg).toInt32)).toNatClampNeg))]) (fun Q => g_istore d_M_weightOf_38 (Nat.le_of_ble_eq_true rfl) rfl) ?_
      refine S.glt (x := (σ.1 60 ((10 : Int32) + ((σ.2 78 (((60 : Int32) * v1) + ((2 : Int32) * v5)).toNatClampNeg).toInt32)).toNatClampNeg)) (Lf := fun y => [some (.ref 59), some (.int v1), some (.int v2), some (.long v3), none, some (.int v5), some (.int y)]) (fun x5 => ?_)
      refine S.of1 (pc2 := 41) (fun Q => g_lload_n d_M_weightOf_40 rfl) ?_
      refine S.of1 (pc2 := 42) (fun Q => g_aload_n d_M_weightOf_41 rfl) ?_
      refine S.of1 (pc2 := 45) (fun Q => g_getr fl_RX11_64 gc_59_38 d_M_weightOf_42) ?_
      refine S.of1 (pc2 := 47) (fun Q => g_bipush (v := (60 : Int32)) d_M_weightOf_45 (by decide)) ?_
      refine S.of1 (pc2 := 48) (fun Q => g_iload_n d_M_weightOf_47 rfl) ?_
      refine S.of1 (pc2 := 49) (fun Q => g_imul d_M_weightOf_48) ?_
      refine S.of1 (pc2 := 50) (fun Q => g_iconst (v := (2 : Int32)) d_M_weightOf_49 (by decide)) ?_
      refine S.of1 (pc2 := 52) (fun Q => g_iload d_M_weightOf_50 rfl) ?_
      refine S.of1 (pc2 := 53) (fun Q => g_imul d_M_weightOf_52) ?_
      refine S.of1 (pc2 := 54) (fun Q => g_iadd d_M_weightOf_53) ?_
      refine S.of1 (pc2 := 55) (fun Q => g_iconst (v := (1 : Int32)) d_M_weightOf_54 (by decide)) ?_
      refine S.of1 (pc2 := 56) (fun Q => g_iadd d_M_weightOf_55) ?_
      refine S.chk (fun h6 => ?_)
      refine S.of1 (pc2 := 57) (fun Q => g_lald ga_78 (gix_in h6) d_M_weightOf_56) ?_
      refine S.of1 (pc2 := 58) (fun Q => g_iload_n d_M_weightOf_57 rfl) ?_
      refine S.of1 (pc2 := 59) (fun Q => g_i2l d_M_weightOf_58) ?_
      refine S.of1 (pc2 := 60) (fun Q => g_lcmp d_M_weightOf_59) ?_
      refine S.br (c := (lg_cmp (σ.2 78 ((((60 : Int32) * v1) + ((2 : Int32) * v5)) + (1 : Int32)).toNatClampNeg) (v2.toInt64)) = 0) (t := 63) (e := 71) (fun Q kt kf => g_if_ne d_M_weightOf_60 rfl kf kt) (fun h7 => ?_) (fun h7 => ?_)
      · refine S.of1 (pc2 := 64) (fun Q => g_iconst (v := (5 : Int32)) d_M_weightOf_63 (by decide)) ?_
        refine S.of1 (pc2 := 66) (fun Q => g_iload d_M_weightOf_64 rfl) ?_
        refine S.of1 (pc2 := 67) (fun Q => g_imul d_M_weightOf_66) ?_
        refine S.of1 (pc2 := 68) (fun Q => g_i2l d_M_weightOf_67) ?_
        refine S.of1 (pc2 := 77) (fun Q => g_goto d_M_weightOf_68 rfl) ?_
        exact S.wk (L2 := [some (.ref 59), some (.int v1), some (.int v2), none, none, some (.int v5), none]) (And.intro rfl (And.intro rfl (And.intro rfl (And.intro rfl trivial)))) (s_M_weightOf_j77 d hd σ (fun v1 v2 v3 v5 => f_M_weightOf_L5 σ n v1 v2 v3 v5) (fun v1 v2 v3 v5 => ih v1 v2 v3 v5) v1 v2 v5 (((5 : Int32) * x5).toInt64) v3)
      · refine S.of1 (pc2 := 73) (fun Q => g_bipush (v := (12 : Int32)) d_M_weightOf_71 (by decide)) ?_
        refine S.of1 (pc2 := 75) (fun Q => g_iload d_M_weightOf_73 rfl) ?_
        refine S.of1 (pc2 := 76) (fun Q => g_isub d_M_weightOf_75) ?_
        refine S.of1 (pc2 := 77) (fun Q => g_i2l d_M_weightOf_76) ?_
        exact S.wk (L2 := [some (.ref 59), some (.int v1), some (.int v2), none, none, some (.int v5), none]) (And.intro rfl (And.intro rfl (And.intro rfl (And.intro rfl trivial)))) (s_M_weightOf_j77 d hd σ (fun v1 v2 v3 v5 => f_M_weightOf_L5 σ n v1 v2 v3 v5) (fun v1 v2 v3 v5 => ih v1 v2 v3 v5) v1 v2 v5 (((12 : Int32) - x5).toInt64) v3)
def f_M_weightOf (v1 : Int32) (v2 : Int32) (σ : gS) : Option Int64 :=
  f_M_weightOf_L5 σ gfu v1 v2 (1 : Int64) (0 : Int32)
theorem c_M_weightOf (d : Nat) (hd : 4 ≤ d) (v1 : Int32) (v2 : Int32) (σ : gS) : C (rJ σ) d m_M_weightOf [.ref 59, .int v1, .int v2] σ (f_M_weightOf v1 v2 σ) := by
  unfold f_M_weightOf
  refine C.of (by decide +kernel) (Nat.le_of_ble_eq_true rfl) (L := [some (.ref 59), some (.int v1), some (.int v2), none, none, none, none]) rfl ?_
  refine S.of1 (pc2 := 1) (fun Q => g_lconst (v := (1 : Int64)) d_M_weightOf_0 (by decide)) ?_
  refine S.of1 (pc2 := 2) (L2 := [some (.ref 59), some (.int v1), some (.int v2), some (.long (1 : Int64)), none, none, none]) (fun Q => g_lstore_n d_M_weightOf_1 (Nat.le_of_ble_eq_true rfl) rfl) ?_
  refine S.of1 (pc2 := 3) (fun Q => g_iconst (v := (0 : Int32)) d_M_weightOf_2 (by decide)) ?_
  refine S.of1 (pc2 := 5) (L2 := [some (.ref 59), some (.int v1), some (.int v2), some (.long (1 : Int64)), none, some (.int (0 : Int32)), none]) (fun Q => g_istore d_M_weightOf_3 (Nat.le_of_ble_eq_true rfl) rfl) ?_
  exact S.wk (L2 := [some (.ref 59), some (.int v1), some (.int v2), some (.long (1 : Int64)), none, some (.int (0 : Int32)), none]) (And.intro rfl (And.intro rfl (And.intro rfl (And.intro rfl (And.intro rfl trivial))))) (s_M_weightOf_L5 d hd σ gfu v1 v2 (1 : Int64) (0 : Int32))
def f_M_likely_L87 (σ : gS) : Nat → Int32 → Int64 → Int64 → Int64 → Int64 → Option Int64
  | 0, _, _, _, _, _ => none
  | n + 1, v3, v4, v6, v8, v10 =>
  if (lg_cmp v10 (0 : Int64)) = 0 then if v3 = 0 then if v8 = 0 then none else some (v4 / v8) else if v8 = 0 then none else some (v6 / v8) else if v10 = 0 then none else (fun v3 v4 v6 v8 v10 => f_M_likely_L87 σ n v3 v4 v6 v8 v10) v3 v4 v6 v10 (glrem v8 v10)
theorem s_M_likely_L87 (d : Nat) (hd : 5 ≤ d) (σ : gS) : ∀ (n : Nat) (v3 : Int32) (v4 : Int64) (v6 : Int64) (v8 : Int64) (v10 : Int64), S (rJ σ) m_M_likely d 87 [none, none, none, some (.int v3), some (.long v4), none, some (.long v6), none, some (.long v8), none, some (.long v10), none, none, none] [] σ (f_M_likely_L87 σ n v3 v4 v6 v8 v10) := by
  intro n
  induction n with
  | zero =>
    intros
    unfold f_M_likely_L87
    exact S.no
  | succ n ih =>
    intro v3 v4 v6 v8 v10
    unfold f_M_likely_L87
    refine S.of1 (pc2 := 89) (fun Q => g_lload d_M_likely_87 rfl) ?_
    refine S.of1 (pc2 := 90) (fun Q => g_lconst (v := (0 : Int64)) d_M_likely_89 (by decide)) ?_
    refine S.of1 (pc2 := 91) (fun Q => g_lcmp d_M_likely_90) ?_
    refine S.br (c := (lg_cmp v10 (0 : Int64)) = 0) (t := 112) (e := 94) (fun Q kt kf => g_if_eq d_M_likely_91 rfl kt kf) (fun h10 => ?_) (fun h10 => ?_)
    · refine S.of1 (pc2 := 113) (fun Q => g_iload_n d_M_likely_112 rfl) ?_
      refine S.br (c := v3 = 0) (t := 116) (e := 124) (fun Q kt kf => g_if_ne d_M_likely_113 rfl kf kt) (fun h11 => ?_) (fun h11 => ?_)
      · refine S.of1 (pc2 := 118) (fun Q => g_lload d_M_likely_116 rfl) ?_
        refine S.of1 (pc2 := 120) (fun Q => g_lload d_M_likely_118 rfl) ?_
        refine S.nz (fun h12 => ?_)
        refine S.of1 (pc2 := 121) (fun Q => g_ldiv d_M_likely_120 h12) ?_
        refine S.of1 (pc2 := 129) (fun Q => g_goto d_M_likely_121 rfl) ?_
        exact S.ret (fun Q hq => g_lret rfl d_M_likely_129 hq)
      · refine S.of1 (pc2 := 126) (fun Q => g_lload d_M_likely_124 rfl) ?_
        refine S.of1 (pc2 := 128) (fun Q => g_lload d_M_likely_126 rfl) ?_
        refine S.nz (fun h13 => ?_)
        refine S.of1 (pc2 := 129) (fun Q => g_ldiv d_M_likely_128 h13) ?_
        exact S.ret (fun Q hq => g_lret rfl d_M_likely_129 hq)
    · refine S.of1 (pc2 := 96) (fun Q => g_lload d_M_likely_94 rfl) ?_
      refine S.of1 (pc2 := 98) (fun Q => g_lload d_M_likely_96 rfl) ?_
      refine S.nz (fun h14 => ?_)
      refine S.of1 (pc2 := 99) (fun Q => g_lrem d_M_likely_98 h14) ?_
      refine S.of1 (pc2 := 101) (L2 := [none, none, none, some (.int v3), some (.long v4), none, some (.long v6), none, some (.long v8), none, some (.long v10), none, some (.long (glrem v8 v10)), none]) (fun Q => g_lstore d_M_likely_99 (Nat.le_of_ble_eq_true rfl) rfl) ?_
      refine S.of1 (pc2 := 103) (fun Q => g_lload d_M_likely_101 rfl) ?_
      refine S.of1 (pc2 := 105) (L2 := [none, none, none, some (.int v3), some (.long v4), none, some (.long v6), none, some (.long v10), none, some (.long v10), none, some (.long (glrem v8 v10)), none]) (fun Q => g_lstore d_M_likely_103 (Nat.le_of_ble_eq_true rfl) rfl) ?_
      refine S.of1 (pc2 := 107) (fun Q => g_lload d_M_likely_105 rfl) ?_
      refine S.of1 (pc2 := 109) (L2 := [none, none, none, some (.int v3), some (.long v4), none, some (.long v6), none, some (.long v10), none, some (.long (glrem v8 v10)), none, some (.long (glrem v8 v10)), none]) (fun Q => g_lstore d_M_likely_107 (Nat.le_of_ble_eq_true rfl) rfl) ?_
      refine S.of1 (pc2 := 87) (fun Q => g_goto d_M_likely_109 rfl) ?_
      exact S.wk (L2 := [none, none, none, some (.int v3), some (.long v4), none, some (.long v6), none, some (.long v10), none, some (.long (glrem v8 v10)), none, none, none]) (And.intro rfl (And.intro rfl (And.intro rfl (And.intro rfl (And.intro rfl trivial))))) (ih v3 v4 v6 v10 (glrem v8 v10))
def f_M_likely_L54 (σ : gS) : Nat → Int32 → Int32 → Int64 → Int64 → Int32 → Option Int64
  | 0, _, _, _, _, _ => none
  | n + 1, v1, v3, v4, v6, v8 =>
  if (6 : Int32) ≤ v8 then f_M_likely_L87 σ gfu v3 v4 v6 v4 v6 else (f_M_weightOf v1 v8 σ).bind fun q15 => (fun v1 v3 v4 v6 v8 => f_M_likely_L54 σ n v1 v3 v4 v6 v8) v1 v3 v4 (v6 + q15) (v8 + (1 : Int32))
theorem s_M_likely_L54 (d : Nat) (hd : 5 ≤ d) (σ : gS) : ∀ (n : Nat) (v1 : Int32) (v3 : Int32) (v4 : Int64) (v6 : Int64) (v8 : Int32), S (rJ σ) m_M_likely d 54 [some (.ref 59), some (.int v1), none, some (.int v3), some (.long v4), none, some (.long v6), none, some (.int v8), none, none, none, none, none] [] σ (f_M_likely_L54 σ n v1 v3 v4 v6 v8) := by
  intro n
  induction n with
  | zero =>
    intros
    unfold f_M_likely_L54
    exact S.no
  | succ n ih =>
    intro v1 v3 v4 v6 v8
    unfold f_M_likely_L54
    refine S.of1 (pc2 := 56) (fun Q => g_iload d_M_likely_54 rfl) ?_
    refine S.of1 (pc2 := 58) (fun Q => g_bipush (v := (6 : Int32)) d_M_likely_56 (by decide)) ?_
    refine S.br (c := (6 : Int32) ≤ v8) (t := 79) (e := 61) (fun Q kt kf => g_icmp_ge d_M_likely_58 rfl kt kf) (fun h9 => ?_) (fun h9 => ?_)
    · refine S.of1 (pc2 := 81) (fun Q => g_lload d_M_likely_79 rfl) ?_
      refine S.of1 (pc2 := 83) (L2 := [some (.ref 59), some (.int v1), none, some (.int v3), some (.long v4), none, some (.long v6), none, some (.long v4), none, none, none, none, none]) (fun Q => g_lstore d_M_likely_81 (Nat.le_of_ble_eq_true rfl) rfl) ?_
      refine S.of1 (pc2 := 85) (fun Q => g_lload d_M_likely_83 rfl) ?_
      refine S.of1 (pc2 := 87) (L2 := [some (.ref 59), some (.int v1), none, some (.int v3), some (.long v4), none, some (.long v6), none, some (.long v4), none, some (.long v6), none, none, none]) (fun Q => g_lstore d_M_likely_85 (Nat.le_of_ble_eq_true rfl) rfl) ?_
      exact S.wk (L2 := [none, none, none, some (.int v3), some (.long v4), none, some (.long v6), none, some (.long v4), none, some (.long v6), none, none, none]) (And.intro rfl (And.intro rfl (And.intro rfl (And.intro rfl (And.intro rfl trivial))))) (s_M_likely_L87 d hd σ gfu v3 v4 v6 v4 v6)
    · refine S.of1 (pc2 := 63) (fun Q => g_lload d_M_likely_61 rfl) ?_
      refine S.of1 (pc2 := 64) (fun Q => g_aload_n d_M_likely_63 rfl) ?_
      refine S.of1 (pc2 := 65) (fun Q => g_iload_n d_M_likely_64 rfl) ?_
      refine S.of1 (pc2 := 67) (fun Q => g_iload d_M_likely_65 rfl) ?_
      refine S.call_rJ (pc3 := 70) rfl (c_M_weightOf (d - 1) (by omega) v1 v8 σ) (fun Q => g_callV (M2 := m_M_weightOf) (vs := [.int v1, .int v8]) (st := [.long v6]) lv_RX11_251 gk_59 rfl rfl (Nat.le_of_ble_eq_true rfl) (by omega) (Nat.le_of_ble_eq_true rfl) rfl d_M_likely_67) (fun q15 => ?_)
      refine S.of1 (pc2 := 71) (fun Q => g_ladd d_M_likely_70) ?_
      refine S.of1 (pc2 := 73) (L2 := [some (.ref 59), some (.int v1), none, some (.int v3), some (.long v4), none, some (.long (v6 + q15)), none, some (.int v8), none, none, none, none, none]) (fun Q => g_lstore d_M_likely_71 (Nat.le_of_ble_eq_true rfl) rfl) ?_
      refine S.of1 (pc2 := 76) (L2 := [some (.ref 59), some (.int v1), none, some (.int v3), some (.long v4), none, some (.long (v6 + q15)), none, some (.int (v8 + (1 : Int32))), none, none, none, none, none]) (fun Q => g_iinc d_M_likely_73 rfl (congrArg (fun z => v8 + z) (by decide)) (Nat.le_of_ble_eq_true rfl) rfl) ?_
      refine S.of1 (pc2 := 54) (fun Q => g_goto d_M_likely_76 rfl) ?_
      exact S.wk (L2 := [some (.ref 59), some (.int v1), none, some (.int v3), some (.long v4), none, some (.long (v6 + q15)), none, some (.int (v8 + (1 : Int32))), none, none, none, none, none]) (And.intro rfl (And.intro rfl (And.intro rfl (And.intro rfl (And.intro rfl (And.intro rfl trivial)))))) (ih v1 v3 v4 (v6 + q15) (v8 + (1 : Int32)))
def f_M_likely (v1 : Int32) (v2 : Int32) (v3 : Int32) (σ : gS) : Option Int64 :=
  (f_M_bytesIs v1 σ).bind fun q1 => if q1 < 0 then some (-9223372036854775808 : Int64) else (f_M_isWeather (v2.toInt64)).bind fun q3 => if q3 = 0 then some (-9223372036854775808 : Int64) else (f_M_within (v3.toInt64) (0 : Int64) (1 : Int64)).bind fun q5 => if q5 = 0 then some (-9223372036854775808 : Int64) else (f_M_weightOf v1 v2 σ).bind fun q7 => if (lg_cmp q7 (0 : Int64)) = 0 then some (v3.toInt64) else f_M_likely_L54 σ gfu v1 v3 q7 (0 : Int64) (0 : Int32)
theorem c_M_likely (d : Nat) (hd : 5 ≤ d) (v1 : Int32) (v2 : Int32) (v3 : Int32) (σ : gS) : C (rJ σ) d m_M_likely [.ref 59, .int v1, .int v2, .int v3] σ (f_M_likely v1 v2 v3 σ) := by
  unfold f_M_likely
  refine C.of (by decide +kernel) (Nat.le_of_ble_eq_true rfl) (L := [some (.ref 59), some (.int v1), some (.int v2), some (.int v3), none, none, none, none, none, none, none, none, none, none]) rfl ?_
  refine S.of1 (pc2 := 1) (fun Q => g_aload_n d_M_likely_0 rfl) ?_
  refine S.of1 (pc2 := 2) (fun Q => g_iload_n d_M_likely_1 rfl) ?_
  refine S.call_rI (pc3 := 5) rfl (c_M_bytesIs (d - 1) (by omega) v1 σ) (fun Q => g_callV (M2 := m_M_bytesIs) (vs := [.int v1]) (st := []) lv_RX11_220 gk_59 rfl rfl (Nat.le_of_ble_eq_true rfl) (by omega) (Nat.le_of_ble_eq_true rfl) rfl d_M_likely_2) (fun q1 => ?_)
  refine S.br (c := q1 < 0) (t := 26) (e := 8) (fun Q kt kf => g_if_lt d_M_likely_5 rfl kt kf) (fun h2 => ?_) (fun h2 => ?_)
  · refine S.of1 (pc2 := 29) (fun Q => g_ldc2 (v := (-9223372036854775808 : Int64)) d_M_likely_26 w_1477) ?_
    exact S.ret (fun Q hq => g_lret rfl d_M_likely_29 hq)
  · refine S.of1 (pc2 := 9) (fun Q => g_iload_n d_M_likely_8 rfl) ?_
    refine S.of1 (pc2 := 10) (fun Q => g_i2l d_M_likely_9) ?_
    refine S.call_rI (pc3 := 13) rfl (c_M_isWeather (d - 1) (by omega) (v2.toInt64) σ) (fun Q => g_callS (M2 := m_M_isWeather) (vs := [.long (v2.toInt64)]) (st := []) ls_RX11_119 rfl (Nat.le_of_ble_eq_true rfl) (by omega) (Nat.le_of_ble_eq_true rfl) rfl d_M_likely_10) (fun q3 => ?_)
    refine S.br (c := q3 = 0) (t := 26) (e := 16) (fun Q kt kf => g_if_eq d_M_likely_13 rfl kt kf) (fun h4 => ?_) (fun h4 => ?_)
    · refine S.of1 (pc2 := 29) (fun Q => g_ldc2 (v := (-9223372036854775808 : Int64)) d_M_likely_26 w_1477) ?_
      exact S.ret (fun Q hq => g_lret rfl d_M_likely_29 hq)
    · refine S.of1 (pc2 := 17) (fun Q => g_iload_n d_M_likely_16 rfl) ?_
      refine S.of1 (pc2 := 18) (fun Q => g_i2l d_M_likely_17) ?_
      refine S.of1 (pc2 := 19) (fun Q => g_lconst (v := (0 : Int64)) d_M_likely_18 (by decide)) ?_
      refine S.of1 (pc2 := 20) (fun Q => g_lconst (v := (1 : Int64)) d_M_likely_19 (by decide)) ?_
      refine S.call_rI (pc3 := 23) rfl (c_M_within (d - 1) (by omega) (v3.toInt64) (0 : Int64) (1 : Int64) σ) (fun Q => g_callS (M2 := m_M_within) (vs := [.long (v3.toInt64), .long (0 : Int64), .long (1 : Int64)]) (st := []) ls_RX11_84 rfl (Nat.le_of_ble_eq_true rfl) (by omega) (Nat.le_of_ble_eq_true rfl) rfl d_M_likely_20) (fun q5 => ?_)
      refine S.br (c := q5 = 0) (t := 26) (e := 30) (fun Q kt kf => g_if_ne d_M_likely_23 rfl kf kt) (fun h6 => ?_) (fun h6 => ?_)
      · refine S.of1 (pc2 := 29) (fun Q => g_ldc2 (v := (-9223372036854775808 : Int64)) d_M_likely_26 w_1477) ?_
        exact S.ret (fun Q hq => g_lret rfl d_M_likely_29 hq)
      · refine S.of1 (pc2 := 31) (fun Q => g_aload_n d_M_likely_30 rfl) ?_
        refine S.of1 (pc2 := 32) (fun Q => g_iload_n d_M_likely_31 rfl) ?_
        refine S.of1 (pc2 := 33) (fun Q => g_iload_n d_M_likely_32 rfl) ?_
        refine S.call_rJ (pc3 := 36) rfl (c_M_weightOf (d - 1) (by omega) v1 v2 σ) (fun Q => g_callV (M2 := m_M_weightOf) (vs := [.int v1, .int v2]) (st := []) lv_RX11_251 gk_59 rfl rfl (Nat.le_of_ble_eq_true rfl) (by omega) (Nat.le_of_ble_eq_true rfl) rfl d_M_likely_33) (fun q7 => ?_)
        refine S.of1 (pc2 := 38) (L2 := [some (.ref 59), some (.int v1), some (.int v2), some (.int v3), some (.long q7), none, none, none, none, none, none, none, none, none]) (fun Q => g_lstore d_M_likely_36 (Nat.le_of_ble_eq_true rfl) rfl) ?_
        refine S.of1 (pc2 := 40) (fun Q => g_lload d_M_likely_38 rfl) ?_
        refine S.of1 (pc2 := 41) (fun Q => g_lconst (v := (0 : Int64)) d_M_likely_40 (by decide)) ?_
        refine S.of1 (pc2 := 42) (fun Q => g_lcmp d_M_likely_41) ?_
        refine S.br (c := (lg_cmp q7 (0 : Int64)) = 0) (t := 45) (e := 48) (fun Q kt kf => g_if_ne d_M_likely_42 rfl kf kt) (fun h8 => ?_) (fun h8 => ?_)
        · refine S.of1 (pc2 := 46) (fun Q => g_iload_n d_M_likely_45 rfl) ?_
          refine S.of1 (pc2 := 47) (fun Q => g_i2l d_M_likely_46) ?_
          exact S.ret (fun Q hq => g_lret rfl d_M_likely_47 hq)
        · refine S.of1 (pc2 := 49) (fun Q => g_lconst (v := (0 : Int64)) d_M_likely_48 (by decide)) ?_
          refine S.of1 (pc2 := 51) (L2 := [some (.ref 59), some (.int v1), some (.int v2), some (.int v3), some (.long q7), none, some (.long (0 : Int64)), none, none, none, none, none, none, none]) (fun Q => g_lstore d_M_likely_49 (Nat.le_of_ble_eq_true rfl) rfl) ?_
          refine S.of1 (pc2 := 52) (fun Q => g_iconst (v := (0 : Int32)) d_M_likely_51 (by decide)) ?_
          refine S.of1 (pc2 := 54) (L2 := [some (.ref 59), some (.int v1), some (.int v2), some (.int v3), some (.long q7), none, some (.long (0 : Int64)), none, some (.int (0 : Int32)), none, none, none, none, none]) (fun Q => g_istore d_M_likely_52 (Nat.le_of_ble_eq_true rfl) rfl) ?_
          exact S.wk (L2 := [some (.ref 59), some (.int v1), none, some (.int v3), some (.long q7), none, some (.long (0 : Int64)), none, some (.int (0 : Int32)), none, none, none, none, none]) (And.intro rfl (And.intro rfl (And.intro rfl (And.intro rfl (And.intro rfl (And.intro rfl trivial)))))) (s_M_likely_L54 d hd σ gfu v1 v3 q7 (0 : Int64) (0 : Int32))
def f_M_liars_j133 (σ : gS) (k44 : Int32 → Int32 → Int32 → Int32 → Int32 → Option Int32) (v1 : Int32) (v2 : Int32) (v4 : Int32) (v5 : Int32) (s0 : Int32) : Option Int32 :=
  k44 v1 v2 s0 v4 (v5 + (1 : Int32))
theorem s_M_liars_j133 (d : Nat) (hd : 4 ≤ d) (σ : gS) (k44 : Int32 → Int32 → Int32 → Int32 → Int32 → Option Int32) (hk44 : ∀ (v1 : Int32) (v2 : Int32) (v3 : Int32) (v4 : Int32) (v5 : Int32), S (rI σ) m_M_liars d 44 [some (.ref 59), some (.int v1), some (.int v2), some (.int v3), some (.int v4), some (.int v5), none, none] [] σ (k44 v1 v2 v3 v4 v5)) (v1 : Int32) (v2 : Int32) (v4 : Int32) (v5 : Int32) (s0 : Int32) : S (rI σ) m_M_liars d 133 [some (.ref 59), some (.int v1), some (.int v2), none, some (.int v4), some (.int v5), none, none] [.int s0] σ (f_M_liars_j133 σ k44 v1 v2 v4 v5 s0) := by
  unfold f_M_liars_j133
  refine S.of1 (pc2 := 134) (L2 := [some (.ref 59), some (.int v1), some (.int v2), some (.int s0), some (.int v4), some (.int v5), none, none]) (fun Q => g_istore_n d_M_liars_133 (Nat.le_of_ble_eq_true rfl) rfl) ?_
  refine S.of1 (pc2 := 137) (L2 := [some (.ref 59), some (.int v1), some (.int v2), some (.int s0), some (.int v4), some (.int (v5 + (1 : Int32))), none, none]) (fun Q => g_iinc d_M_liars_134 rfl (congrArg (fun z => v5 + z) (by decide)) (Nat.le_of_ble_eq_true rfl) rfl) ?_
  refine S.of1 (pc2 := 44) (fun Q => g_goto d_M_liars_137 rfl) ?_
  exact S.wk (L2 := [some (.ref 59), some (.int v1), some (.int v2), some (.int s0), some (.int v4), some (.int (v5 + (1 : Int32))), none, none]) (And.intro rfl (And.intro rfl (And.intro rfl (And.intro rfl (And.intro rfl (And.intro rfl trivial)))))) (hk44 v1 v2 s0 v4 (v5 + (1 : Int32)))
def f_M_liars_j119 (σ : gS) (k44 : Int32 → Int32 → Int32 → Int32 → Int32 → Option Int32) (v1 : Int32) (v2 : Int32) (v3 : Int32) (v5 : Int32) (v6 : Int32) (s0 : Int32) : Option Int32 :=
  if v3 ≤ v6 then f_M_liars_j133 σ k44 v1 v2 s0 v5 v3 else f_M_liars_j133 σ k44 v1 v2 s0 v5 v6
theorem s_M_liars_j119 (d : Nat) (hd : 4 ≤ d) (σ : gS) (k44 : Int32 → Int32 → Int32 → Int32 → Int32 → Option Int32) (hk44 : ∀ (v1 : Int32) (v2 : Int32) (v3 : Int32) (v4 : Int32) (v5 : Int32), S (rI σ) m_M_liars d 44 [some (.ref 59), some (.int v1), some (.int v2), some (.int v3), some (.int v4), some (.int v5), none, none] [] σ (k44 v1 v2 v3 v4 v5)) (v1 : Int32) (v2 : Int32) (v3 : Int32) (v5 : Int32) (v6 : Int32) (s0 : Int32) : S (rI σ) m_M_liars d 119 [some (.ref 59), some (.int v1), some (.int v2), some (.int v3), none, some (.int v5), some (.int v6), none] [.int s0] σ (f_M_liars_j119 σ k44 v1 v2 v3 v5 v6 s0) := by
  unfold f_M_liars_j119
  refine S.of1 (pc2 := 121) (L2 := [some (.ref 59), some (.int v1), some (.int v2), some (.int v3), some (.int s0), some (.int v5), some (.int v6), none]) (fun Q => g_istore d_M_liars_119 (Nat.le_of_ble_eq_true rfl) rfl) ?_
  refine S.of1 (pc2 := 123) (fun Q => g_iload d_M_liars_121 rfl) ?_
  refine S.of1 (pc2 := 124) (fun Q => g_iload_n d_M_liars_123 rfl) ?_
  refine S.br (c := v3 ≤ v6) (t := 132) (e := 127) (fun Q kt kf => g_icmp_ge d_M_liars_124 rfl kt kf) (fun h12 => ?_) (fun h12 => ?_)
  · refine S.of1 (pc2 := 133) (fun Q => g_iload_n d_M_liars_132 rfl) ?_
    exact S.wk (L2 := [some (.ref 59), some (.int v1), some (.int v2), none, some (.int s0), some (.int v5), none, none]) (And.intro rfl (And.intro rfl (And.intro rfl (And.intro rfl (And.intro rfl trivial))))) (s_M_liars_j133 d hd σ k44 hk44 v1 v2 s0 v5 v3)
  · refine S.of1 (pc2 := 129) (fun Q => g_iload d_M_liars_127 rfl) ?_
    refine S.of1 (pc2 := 133) (fun Q => g_goto d_M_liars_129 rfl) ?_
    exact S.wk (L2 := [some (.ref 59), some (.int v1), some (.int v2), none, some (.int s0), some (.int v5), none, none]) (And.intro rfl (And.intro rfl (And.intro rfl (And.intro rfl (And.intro rfl trivial))))) (s_M_liars_j133 d hd σ k44 hk44 v1 v2 s0 v5 v6)
def f_M_liars_j97 (σ : gS) (k44 : Int32 → Int32 → Int32 → Int32 → Int32 → Option Int32) (k57 : Int32 → Int32 → Int32 → Int32 → Int32 → Int32 → Int32 → Option Int32) (v1 : Int32) (v2 : Int32) (v3 : Int32) (v4 : Int32) (v5 : Int32) (v7 : Int32) (s0 : Int32) (s1 : Int32) : Option Int32 :=
  k57 v1 v2 v3 v4 v5 (s1 + s0) (v7 + (1 : Int32))
theorem s_M_liars_j97 (d : Nat) (hd : 4 ≤ d) (σ : gS) (k44 : Int32 → Int32 → Int32 → Int32 → Int32 → Option Int32) (hk44 : ∀ (v1 : Int32) (v2 : Int32) (v3 : Int32) (v4 : Int32) (v5 : Int32), S (rI σ) m_M_liars d 44 [some (.ref 59), some (.int v1), some (.int v2), some (.int v3), some (.int v4), some (.int v5), none, none] [] σ (k44 v1 v2 v3 v4 v5)) (k57 : Int32 → Int32 → Int32 → Int32 → Int32 → Int32 → Int32 → Option Int32) (hk57 : ∀ (v1 : Int32) (v2 : Int32) (v3 : Int32) (v4 : Int32) (v5 : Int32) (v6 : Int32) (v7 : Int32), S (rI σ) m_M_liars d 57 [some (.ref 59), some (.int v1), some (.int v2), some (.int v3), some (.int v4), some (.int v5), some (.int v6), some (.int v7)] [] σ (k57 v1 v2 v3 v4 v5 v6 v7)) (v1 : Int32) (v2 : Int32) (v3 : Int32) (v4 : Int32) (v5 : Int32) (v7 : Int32) (s0 : Int32) (s1 : Int32) : S (rI σ) m_M_liars d 97 [some (.ref 59), some (.int v1), some (.int v2), some (.int v3), some (.int v4), some (.int v5), none, some (.int v7)] [.int s0, .int s1] σ (f_M_liars_j97 σ k44 k57 v1 v2 v3 v4 v5 v7 s0 s1) := by
  unfold f_M_liars_j97
  refine S.of1 (pc2 := 98) (fun Q => g_iadd d_M_liars_97) ?_
  refine S.of1 (pc2 := 100) (L2 := [some (.ref 59), some (.int v1), some (.int v2), some (.int v3), some (.int v4), some (.int v5), some (.int (s1 + s0)), some (.int v7)]) (fun Q => g_istore d_M_liars_98 (Nat.le_of_ble_eq_true rfl) rfl) ?_
  refine S.of1 (pc2 := 103) (L2 := [some (.ref 59), some (.int v1), some (.int v2), some (.int v3), some (.int v4), some (.int v5), some (.int (s1 + s0)), some (.int (v7 + (1 : Int32)))]) (fun Q => g_iinc d_M_liars_100 rfl (congrArg (fun z => v7 + z) (by decide)) (Nat.le_of_ble_eq_true rfl) rfl) ?_
  refine S.of1 (pc2 := 57) (fun Q => g_goto d_M_liars_103 rfl) ?_
  exact S.wk (L2 := [some (.ref 59), some (.int v1), some (.int v2), some (.int v3), some (.int v4), some (.int v5), some (.int (s1 + s0)), some (.int (v7 + (1 : Int32)))]) (And.intro rfl (And.intro rfl (And.intro rfl (And.intro rfl (And.intro rfl (And.intro rfl (And.intro rfl (And.intro rfl trivial)))))))) (hk57 v1 v2 v3 v4 v5 (s1 + s0) (v7 + (1 : Int32)))
def f_M_liars_L57 (σ : gS) (k44 : Int32 → Int32 → Int32 → Int32 → Int32 → Option Int32) : Nat → Int32 → Int32 → Int32 → Int32 → Int32 → Int32 → Int32 → Option Int32
  | 0, _, _, _, _, _, _, _ => none
  | n + 1, v1, v2, v3, v4, v5, v6, v7 =>
  (f_M_saidMany v1 σ).bind fun q9 => if q9 ≤ v7 then if v3 ≤ v6 then f_M_liars_j119 σ k44 v1 v2 v3 v5 v6 v4 else f_M_liars_j119 σ k44 v1 v2 v3 v5 v6 v5 else if gix ((((60 : Int32) * v1) + ((2 : Int32) * v7)) + (1 : Int32)) 360 then if (lg_cmp (σ.2 78 ((((60 : Int32) * v1) + ((2 : Int32) * v7)) + (1 : Int32)).toNatClampNeg) (v5.toInt64)) = 0 then f_M_liars_j97 σ k44 (fun v1 v2 v3 v4 v5 v6 v7 => f_M_liars_L57 σ k44 n v1 v2 v3 v4 v5 v6 v7) v1 v2 v3 v4 v5 v7 (0 : Int32) v6 else f_M_liars_j97 σ k44 (fun v1 v2 v3 v4 v5 v6 v7 => f_M_liars_L57 σ k44 n v1 v2 v3 v4 v5 v6 v7) v1 v2 v3 v4 v5 v7 (1 : Int32) v6 else none
theorem s_M_liars_L57 (d : Nat) (hd : 4 ≤ d) (σ : gS) (k44 : Int32 → Int32 → Int32 → Int32 → Int32 → Option Int32) (hk44 : ∀ (v1 : Int32) (v2 : Int32) (v3 : Int32) (v4 : Int32) (v5 : Int32), S (rI σ) m_M_liars d 44 [some (.ref 59), some (.int v1), some (.int v2), some (.int v3), some (.int v4), some (.int v5), none, none] [] σ (k44 v1 v2 v3 v4 v5)) : ∀ (n : Nat) (v1 : Int32) (v2 : Int32) (v3 : Int32) (v4 : Int32) (v5 : Int32) (v6 : Int32) (v7 : Int32), S (rI σ) m_M_liars d 57 [some (.ref 59), some (.int v1), some (.int v2), some (.int v3), some (.int v4), some (.int v5), some (.int v6), some (.int v7)] [] σ (f_M_liars_L57 σ k44 n v1 v2 v3 v4 v5 v6 v7) := by
  intro n
  induction n with
  | zero =>
    intros
    unfold f_M_liars_L57
    exact S.no
  | succ n ih =>
    intro v1 v2 v3 v4 v5 v6 v7
    unfold f_M_liars_L57
    refine S.of1 (pc2 := 59) (fun Q => g_iload d_M_liars_57 rfl) ?_
    refine S.of1 (pc2 := 60) (fun Q => g_aload_n d_M_liars_59 rfl) ?_
    refine S.of1 (pc2 := 61) (fun Q => g_iload_n d_M_liars_60 rfl) ?_
    refine S.call_rI (pc3 := 64) rfl (c_M_saidMany (d - 1) (by omega) v1 σ) (fun Q => g_callV (M2 := m_M_saidMany) (vs := [.int v1]) (st := [.int v7]) lv_RX11_244 gk_59 rfl rfl (Nat.le_of_ble_eq_true rfl) (by omega) (Nat.le_of_ble_eq_true rfl) rfl d_M_liars_61) (fun q9 => ?_)
    refine S.br (c := q9 ≤ v7) (t := 106) (e := 67) (fun Q kt kf => g_icmp_ge d_M_liars_64 rfl kt kf) (fun h10 => ?_) (fun h10 => ?_)
    · refine S.of1 (pc2 := 108) (fun Q => g_iload d_M_liars_106 rfl) ?_
      refine S.of1 (pc2 := 109) (fun Q => g_iload_n d_M_liars_108 rfl) ?_
      refine S.br (c := v3 ≤ v6) (t := 117) (e := 112) (fun Q kt kf => g_icmp_ge d_M_liars_109 rfl kt kf) (fun h11 => ?_) (fun h11 => ?_)
      · refine S.of1 (pc2 := 119) (fun Q => g_iload d_M_liars_117 rfl) ?_
        exact S.wk (L2 := [some (.ref 59), some (.int v1), some (.int v2), some (.int v3), none, some (.int v5), some (.int v6), none]) (And.intro rfl (And.intro rfl (And.intro rfl (And.intro rfl (And.intro rfl (And.intro rfl trivial)))))) (s_M_liars_j119 d hd σ k44 hk44 v1 v2 v3 v5 v6 v4)
      · refine S.of1 (pc2 := 114) (fun Q => g_iload d_M_liars_112 rfl) ?_
        refine S.of1 (pc2 := 119) (fun Q => g_goto d_M_liars_114 rfl) ?_
        exact S.wk (L2 := [some (.ref 59), some (.int v1), some (.int v2), some (.int v3), none, some (.int v5), some (.int v6), none]) (And.intro rfl (And.intro rfl (And.intro rfl (And.intro rfl (And.intro rfl (And.intro rfl trivial)))))) (s_M_liars_j119 d hd σ k44 hk44 v1 v2 v3 v5 v6 v5)
    · refine S.of1 (pc2 := 69) (fun Q => g_iload d_M_liars_67 rfl) ?_
      refine S.of1 (pc2 := 70) (fun Q => g_aload_n d_M_liars_69 rfl) ?_
      refine S.of1 (pc2 := 73) (fun Q => g_getr fl_RX11_64 gc_59_38 d_M_liars_70) ?_
      refine S.of1 (pc2 := 75) (fun Q => g_bipush (v := (60 : Int32)) d_M_liars_73 (by decide)) ?_
      refine S.of1 (pc2 := 76) (fun Q => g_iload_n d_M_liars_75 rfl) ?_
      refine S.of1 (pc2 := 77) (fun Q => g_imul d_M_liars_76) ?_
      refine S.of1 (pc2 := 78) (fun Q => g_iconst (v := (2 : Int32)) d_M_liars_77 (by decide)) ?_
      refine S.of1 (pc2 := 80) (fun Q => g_iload d_M_liars_78 rfl) ?_
      refine S.of1 (pc2 := 81) (fun Q => g_imul d_M_liars_80) ?_
      refine S.of1 (pc2 := 82) (fun Q => g_iadd d_M_liars_81) ?_
      refine S.of1 (pc2 := 83) (fun Q => g_iconst (v := (1 : Int32)) d_M_liars_82 (by decide)) ?_
      refine S.of1 (pc2 := 84) (fun Q => g_iadd d_M_liars_83) ?_
      refine S.chk (fun h13 => ?_)
      refine S.of1 (pc2 := 85) (fun Q => g_lald ga_78 (gix_in h13) d_M_liars_84) ?_
      refine S.of1 (pc2 := 87) (fun Q => g_iload d_M_liars_85 rfl) ?_
      refine S.of1 (pc2 := 88) (fun Q => g_i2l d_M_liars_87) ?_
      refine S.of1 (pc2 := 89) (fun Q => g_lcmp d_M_liars_88) ?_
      refine S.br (c := (lg_cmp (σ.2 78 ((((60 : Int32) * v1) + ((2 : Int32) * v7)) + (1 : Int32)).toNatClampNeg) (v5.toInt64)) = 0) (t := 96) (e := 92) (fun Q kt kf => g_if_eq d_M_liars_89 rfl kt kf) (fun h14 => ?_) (fun h14 => ?_)
      · refine S.of1 (pc2 := 97) (fun Q => g_iconst (v := (0 : Int32)) d_M_liars_96 (by decide)) ?_
        exact S.wk (L2 := [some (.ref 59), some (.int v1), some (.int v2), some (.int v3), some (.int v4), some (.int v5), none, some (.int v7)]) (And.intro rfl (And.intro rfl (And.intro rfl (And.intro rfl (And.intro rfl (And.intro rfl (And.intro rfl trivial))))))) (s_M_liars_j97 d hd σ k44 hk44 (fun v1 v2 v3 v4 v5 v6 v7 => f_M_liars_L57 σ k44 n v1 v2 v3 v4 v5 v6 v7) (fun v1 v2 v3 v4 v5 v6 v7 => ih v1 v2 v3 v4 v5 v6 v7) v1 v2 v3 v4 v5 v7 (0 : Int32) v6)
      · refine S.of1 (pc2 := 93) (fun Q => g_iconst (v := (1 : Int32)) d_M_liars_92 (by decide)) ?_
        refine S.of1 (pc2 := 97) (fun Q => g_goto d_M_liars_93 rfl) ?_
        exact S.wk (L2 := [some (.ref 59), some (.int v1), some (.int v2), some (.int v3), some (.int v4), some (.int v5), none, some (.int v7)]) (And.intro rfl (And.intro rfl (And.intro rfl (And.intro rfl (And.intro rfl (And.intro rfl (And.intro rfl trivial))))))) (s_M_liars_j97 d hd σ k44 hk44 (fun v1 v2 v3 v4 v5 v6 v7 => f_M_liars_L57 σ k44 n v1 v2 v3 v4 v5 v6 v7) (fun v1 v2 v3 v4 v5 v6 v7 => ih v1 v2 v3 v4 v5 v6 v7) v1 v2 v3 v4 v5 v7 (1 : Int32) v6)
def f_M_liars_L44 (σ : gS) : Nat → Int32 → Int32 → Int32 → Int32 → Int32 → Option Int32
  | 0, _, _, _, _, _ => none
  | n + 1, v1, v2, v3, v4, v5 =>
  if (6 : Int32) ≤ v5 then if v2 = 0 then some v3 else some v4 else f_M_liars_L57 σ (fun v1 v2 v3 v4 v5 => f_M_liars_L44 σ n v1 v2 v3 v4 v5) gfu v1 v2 v3 v4 v5 (0 : Int32) (0 : Int32)
theorem s_M_liars_L44 (d : Nat) (hd : 4 ≤ d) (σ : gS) : ∀ (n : Nat) (v1 : Int32) (v2 : Int32) (v3 : Int32) (v4 : Int32) (v5 : Int32), S (rI σ) m_M_liars d 44 [some (.ref 59), some (.int v1), some (.int v2), some (.int v3), some (.int v4), some (.int v5), none, none] [] σ (f_M_liars_L44 σ n v1 v2 v3 v4 v5) := by
  intro n
  induction n with
  | zero =>
    intros
    unfold f_M_liars_L44
    exact S.no
  | succ n ih =>
    intro v1 v2 v3 v4 v5
    unfold f_M_liars_L44
    refine S.of1 (pc2 := 46) (fun Q => g_iload d_M_liars_44 rfl) ?_
    refine S.of1 (pc2 := 48) (fun Q => g_bipush (v := (6 : Int32)) d_M_liars_46 (by decide)) ?_
    refine S.br (c := (6 : Int32) ≤ v5) (t := 140) (e := 51) (fun Q kt kf => g_icmp_ge d_M_liars_48 rfl kt kf) (fun h7 => ?_) (fun h7 => ?_)
    · refine S.of1 (pc2 := 141) (fun Q => g_iload_n d_M_liars_140 rfl) ?_
      refine S.br (c := v2 = 0) (t := 144) (e := 148) (fun Q kt kf => g_if_ne d_M_liars_141 rfl kf kt) (fun h8 => ?_) (fun h8 => ?_)
      · refine S.of1 (pc2 := 145) (fun Q => g_iload_n d_M_liars_144 rfl) ?_
        refine S.of1 (pc2 := 150) (fun Q => g_goto d_M_liars_145 rfl) ?_
        exact S.ret (fun Q hq => g_iret rfl d_M_liars_150 hq)
      · refine S.of1 (pc2 := 150) (fun Q => g_iload d_M_liars_148 rfl) ?_
        exact S.ret (fun Q hq => g_iret rfl d_M_liars_150 hq)
    · refine S.of1 (pc2 := 52) (fun Q => g_iconst (v := (0 : Int32)) d_M_liars_51 (by decide)) ?_
      refine S.of1 (pc2 := 54) (L2 := [some (.ref 59), some (.int v1), some (.int v2), some (.int v3), some (.int v4), some (.int v5), some (.int (0 : Int32)), none]) (fun Q => g_istore d_M_liars_52 (Nat.le_of_ble_eq_true rfl) rfl) ?_
      refine S.of1 (pc2 := 55) (fun Q => g_iconst (v := (0 : Int32)) d_M_liars_54 (by decide)) ?_
      refine S.of1 (pc2 := 57) (L2 := [some (.ref 59), some (.int v1), some (.int v2), some (.int v3), some (.int v4), some (.int v5), some (.int (0 : Int32)), some (.int (0 : Int32))]) (fun Q => g_istore d_M_liars_55 (Nat.le_of_ble_eq_true rfl) rfl) ?_
      exact S.wk (L2 := [some (.ref 59), some (.int v1), some (.int v2), some (.int v3), some (.int v4), some (.int v5), some (.int (0 : Int32)), some (.int (0 : Int32))]) (And.intro rfl (And.intro rfl (And.intro rfl (And.intro rfl (And.intro rfl (And.intro rfl (And.intro rfl (And.intro rfl trivial)))))))) (s_M_liars_L57 d hd σ (fun v1 v2 v3 v4 v5 => f_M_liars_L44 σ n v1 v2 v3 v4 v5) (fun v1 v2 v3 v4 v5 => ih v1 v2 v3 v4 v5) gfu v1 v2 v3 v4 v5 (0 : Int32) (0 : Int32))
def f_M_liars (v1 : Int32) (v2 : Int32) (σ : gS) : Option Int32 :=
  (f_M_bytesIs v1 σ).bind fun q1 => if q1 = (-1 : Int32) then some (-1 : Int32) else (f_M_within (v2.toInt64) (0 : Int64) (1 : Int64)).bind fun q3 => if q3 = 0 then some (-1 : Int32) else (f_M_bytesIs v1 σ).bind fun q5 => if 0 ≤ q5 then f_M_liars_L44 σ gfu v1 v2 (1000000 : Int32) (0 : Int32) (0 : Int32) else (f_M_bytesIs v1 σ).bind fun q15 => some q15
theorem c_M_liars (d : Nat) (hd : 4 ≤ d) (v1 : Int32) (v2 : Int32) (σ : gS) : C (rI σ) d m_M_liars [.ref 59, .int v1, .int v2] σ (f_M_liars v1 v2 σ) := by
  unfold f_M_liars
  refine C.of (by decide +kernel) (Nat.le_of_ble_eq_true rfl) (L := [some (.ref 59), some (.int v1), some (.int v2), none, none, none, none, none]) rfl ?_
  refine S.of1 (pc2 := 1) (fun Q => g_aload_n d_M_liars_0 rfl) ?_
  refine S.of1 (pc2 := 2) (fun Q => g_iload_n d_M_liars_1 rfl) ?_
  refine S.call_rI (pc3 := 5) rfl (c_M_bytesIs (d - 1) (by omega) v1 σ) (fun Q => g_callV (M2 := m_M_bytesIs) (vs := [.int v1]) (st := []) lv_RX11_220 gk_59 rfl rfl (Nat.le_of_ble_eq_true rfl) (by omega) (Nat.le_of_ble_eq_true rfl) rfl d_M_liars_2) (fun q1 => ?_)
  refine S.of1 (pc2 := 6) (fun Q => g_iconst (v := (-1 : Int32)) d_M_liars_5 (by decide)) ?_
  refine S.br (c := q1 = (-1 : Int32)) (t := 19) (e := 9) (fun Q kt kf => g_icmp_eq d_M_liars_6 rfl kt kf) (fun h2 => ?_) (fun h2 => ?_)
  · refine S.of1 (pc2 := 20) (fun Q => g_iconst (v := (-1 : Int32)) d_M_liars_19 (by decide)) ?_
    exact S.ret (fun Q hq => g_iret rfl d_M_liars_20 hq)
  · refine S.of1 (pc2 := 10) (fun Q => g_iload_n d_M_liars_9 rfl) ?_
    refine S.of1 (pc2 := 11) (fun Q => g_i2l d_M_liars_10) ?_
    refine S.of1 (pc2 := 12) (fun Q => g_lconst (v := (0 : Int64)) d_M_liars_11 (by decide)) ?_
    refine S.of1 (pc2 := 13) (fun Q => g_lconst (v := (1 : Int64)) d_M_liars_12 (by decide)) ?_
    refine S.call_rI (pc3 := 16) rfl (c_M_within (d - 1) (by omega) (v2.toInt64) (0 : Int64) (1 : Int64) σ) (fun Q => g_callS (M2 := m_M_within) (vs := [.long (v2.toInt64), .long (0 : Int64), .long (1 : Int64)]) (st := []) ls_RX11_84 rfl (Nat.le_of_ble_eq_true rfl) (by omega) (Nat.le_of_ble_eq_true rfl) rfl d_M_liars_13) (fun q3 => ?_)
    refine S.br (c := q3 = 0) (t := 19) (e := 21) (fun Q kt kf => g_if_ne d_M_liars_16 rfl kf kt) (fun h4 => ?_) (fun h4 => ?_)
    · refine S.of1 (pc2 := 20) (fun Q => g_iconst (v := (-1 : Int32)) d_M_liars_19 (by decide)) ?_
      exact S.ret (fun Q hq => g_iret rfl d_M_liars_20 hq)
    · refine S.of1 (pc2 := 22) (fun Q => g_aload_n d_M_liars_21 rfl) ?_
      refine S.of1 (pc2 := 23) (fun Q => g_iload_n d_M_liars_22 rfl) ?_
      refine S.call_rI (pc3 := 26) rfl (c_M_bytesIs (d - 1) (by omega) v1 σ) (fun Q => g_callV (M2 := m_M_bytesIs) (vs := [.int v1]) (st := []) lv_RX11_220 gk_59 rfl rfl (Nat.le_of_ble_eq_true rfl) (by omega) (Nat.le_of_ble_eq_true rfl) rfl d_M_liars_23) (fun q5 => ?_)
      refine S.br (c := 0 ≤ q5) (t := 35) (e := 29) (fun Q kt kf => g_if_ge d_M_liars_26 rfl kt kf) (fun h6 => ?_) (fun h6 => ?_)
      · refine S.of1 (pc2 := 37) (fun Q => g_ldc (v := (1000000 : Int32)) d_M_liars_35 w_1444) ?_
        refine S.of1 (pc2 := 38) (L2 := [some (.ref 59), some (.int v1), some (.int v2), some (.int (1000000 : Int32)), none, none, none, none]) (fun Q => g_istore_n d_M_liars_37 (Nat.le_of_ble_eq_true rfl) rfl) ?_
        refine S.of1 (pc2 := 39) (fun Q => g_iconst (v := (0 : Int32)) d_M_liars_38 (by decide)) ?_
        refine S.of1 (pc2 := 41) (L2 := [some (.ref 59), some (.int v1), some (.int v2), some (.int (1000000 : Int32)), some (.int (0 : Int32)), none, none, none]) (fun Q => g_istore d_M_liars_39 (Nat.le_of_ble_eq_true rfl) rfl) ?_
        refine S.of1 (pc2 := 42) (fun Q => g_iconst (v := (0 : Int32)) d_M_liars_41 (by decide)) ?_
        refine S.of1 (pc2 := 44) (L2 := [some (.ref 59), some (.int v1), some (.int v2), some (.int (1000000 : Int32)), some (.int (0 : Int32)), some (.int (0 : Int32)), none, none]) (fun Q => g_istore d_M_liars_42 (Nat.le_of_ble_eq_true rfl) rfl) ?_
        exact S.wk (L2 := [some (.ref 59), some (.int v1), some (.int v2), some (.int (1000000 : Int32)), some (.int (0 : Int32)), some (.int (0 : Int32)), none, none]) (And.intro rfl (And.intro rfl (And.intro rfl (And.intro rfl (And.intro rfl (And.intro rfl trivial)))))) (s_M_liars_L44 d hd σ gfu v1 v2 (1000000 : Int32) (0 : Int32) (0 : Int32))
      · refine S.of1 (pc2 := 30) (fun Q => g_aload_n d_M_liars_29 rfl) ?_
        refine S.of1 (pc2 := 31) (fun Q => g_iload_n d_M_liars_30 rfl) ?_
        refine S.call_rI (pc3 := 34) rfl (c_M_bytesIs (d - 1) (by omega) v1 σ) (fun Q => g_callV (M2 := m_M_bytesIs) (vs := [.int v1]) (st := []) lv_RX11_220 gk_59 rfl rfl (Nat.le_of_ble_eq_true rfl) (by omega) (Nat.le_of_ble_eq_true rfl) rfl d_M_liars_31) (fun q15 => ?_)
        exact S.ret (fun Q hq => g_iret rfl d_M_liars_34 hq)
def f_M_dayMany_L2 (σ : gS) : Nat → Int32 → Int32 → Option Int32
  | 0, _, _ => none
  | n + 1, v1, v2 =>
  if (40 : Int32) ≤ v2 then some v2 else if gix v1 6 then if (σ.1 77 v1.toNatClampNeg) ≤ v2 then some v2 else if gix (((60 : Int32) * v1) + v2) 360 then (f_M_isWeather (σ.2 78 (((60 : Int32) * v1) + v2).toNatClampNeg)).bind fun q5 => if q5 = 0 then some v2 else (fun v1 v2 => f_M_dayMany_L2 σ n v1 v2) v1 (v2 + (1 : Int32)) else none else none
theorem s_M_dayMany_L2 (d : Nat) (hd : 3 ≤ d) (σ : gS) : ∀ (n : Nat) (v1 : Int32) (v2 : Int32), S (rI σ) m_M_dayMany d 2 [some (.ref 59), some (.int v1), some (.int v2)] [] σ (f_M_dayMany_L2 σ n v1 v2) := by
  intro n
  induction n with
  | zero =>
    intros
    unfold f_M_dayMany_L2
    exact S.no
  | succ n ih =>
    intro v1 v2
    unfold f_M_dayMany_L2
    refine S.of1 (pc2 := 3) (fun Q => g_iload_n d_M_dayMany_2 rfl) ?_
    refine S.of1 (pc2 := 5) (fun Q => g_bipush (v := (40 : Int32)) d_M_dayMany_3 (by decide)) ?_
    refine S.br (c := (40 : Int32) ≤ v2) (t := 41) (e := 8) (fun Q kt kf => g_icmp_ge d_M_dayMany_5 rfl kt kf) (fun h1 => ?_) (fun h1 => ?_)
    · refine S.of1 (pc2 := 42) (fun Q => g_iload_n d_M_dayMany_41 rfl) ?_
      exact S.ret (fun Q hq => g_iret rfl d_M_dayMany_42 hq)
    · refine S.of1 (pc2 := 9) (fun Q => g_iload_n d_M_dayMany_8 rfl) ?_
      refine S.of1 (pc2 := 10) (fun Q => g_aload_n d_M_dayMany_9 rfl) ?_
      refine S.of1 (pc2 := 13) (fun Q => g_getr fl_RX11_61 gc_59_37 d_M_dayMany_10) ?_
      refine S.of1 (pc2 := 14) (fun Q => g_iload_n d_M_dayMany_13 rfl) ?_
      refine S.chk (fun h2 => ?_)
      refine S.of1 (pc2 := 15) (fun Q => g_iald ga_77 (gix_in h2) d_M_dayMany_14) ?_
      refine S.br (c := (σ.1 77 v1.toNatClampNeg) ≤ v2) (t := 41) (e := 18) (fun Q kt kf => g_icmp_ge d_M_dayMany_15 rfl kt kf) (fun h3 => ?_) (fun h3 => ?_)
      · refine S.of1 (pc2 := 42) (fun Q => g_iload_n d_M_dayMany_41 rfl) ?_
        exact S.ret (fun Q hq => g_iret rfl d_M_dayMany_42 hq)
      · refine S.of1 (pc2 := 19) (fun Q => g_aload_n d_M_dayMany_18 rfl) ?_
        refine S.of1 (pc2 := 22) (fun Q => g_getr fl_RX11_64 gc_59_38 d_M_dayMany_19) ?_
        refine S.of1 (pc2 := 24) (fun Q => g_bipush (v := (60 : Int32)) d_M_dayMany_22 (by decide)) ?_
        refine S.of1 (pc2 := 25) (fun Q => g_iload_n d_M_dayMany_24 rfl) ?_
        refine S.of1 (pc2 := 26) (fun Q => g_imul d_M_dayMany_25) ?_
        refine S.of1 (pc2 := 27) (fun Q => g_iload_n d_M_dayMany_26 rfl) ?_
        refine S.of1 (pc2 := 28) (fun Q => g_iadd d_M_dayMany_27) ?_
        refine S.chk (fun h4 => ?_)
        refine S.of1 (pc2 := 29) (fun Q => g_lald ga_78 (gix_in h4) d_M_dayMany_28) ?_
        refine S.call_rI (pc3 := 32) rfl (c_M_isWeather (d - 1) (by omega) (σ.2 78 (((60 : Int32) * v1) + v2).toNatClampNeg) σ) (fun Q => g_callS (M2 := m_M_isWeather) (vs := [.long (σ.2 78 (((60 : Int32) * v1) + v2).toNatClampNeg)]) (st := []) ls_RX11_119 rfl (Nat.le_of_ble_eq_true rfl) (by omega) (Nat.le_of_ble_eq_true rfl) rfl d_M_dayMany_29) (fun q5 => ?_)
        refine S.br (c := q5 = 0) (t := 41) (e := 35) (fun Q kt kf => g_if_eq d_M_dayMany_32 rfl kt kf) (fun h6 => ?_) (fun h6 => ?_)
        · refine S.of1 (pc2 := 42) (fun Q => g_iload_n d_M_dayMany_41 rfl) ?_
          exact S.ret (fun Q hq => g_iret rfl d_M_dayMany_42 hq)
        · refine S.of1 (pc2 := 38) (L2 := [some (.ref 59), some (.int v1), some (.int (v2 + (1 : Int32)))]) (fun Q => g_iinc d_M_dayMany_35 rfl (congrArg (fun z => v2 + z) (by decide)) (Nat.le_of_ble_eq_true rfl) rfl) ?_
          refine S.of1 (pc2 := 2) (fun Q => g_goto d_M_dayMany_38 rfl) ?_
          exact S.wk (L2 := [some (.ref 59), some (.int v1), some (.int (v2 + (1 : Int32)))]) (And.intro rfl (And.intro rfl (And.intro rfl trivial))) (ih v1 (v2 + (1 : Int32)))
def f_M_dayMany (v1 : Int32) (σ : gS) : Option Int32 :=
  f_M_dayMany_L2 σ gfu v1 (0 : Int32)
theorem c_M_dayMany (d : Nat) (hd : 3 ≤ d) (v1 : Int32) (σ : gS) : C (rI σ) d m_M_dayMany [.ref 59, .int v1] σ (f_M_dayMany v1 σ) := by
  unfold f_M_dayMany
  refine C.of (by decide +kernel) (Nat.le_of_ble_eq_true rfl) (L := [some (.ref 59), some (.int v1), none]) rfl ?_
  refine S.of1 (pc2 := 1) (fun Q => g_iconst (v := (0 : Int32)) d_M_dayMany_0 (by decide)) ?_
  refine S.of1 (pc2 := 2) (L2 := [some (.ref 59), some (.int v1), some (.int (0 : Int32))]) (fun Q => g_istore_n d_M_dayMany_1 (Nat.le_of_ble_eq_true rfl) rfl) ?_
  exact S.wk (L2 := [some (.ref 59), some (.int v1), some (.int (0 : Int32))]) (And.intro rfl (And.intro rfl (And.intro rfl trivial))) (s_M_dayMany_L2 d hd σ gfu v1 (0 : Int32))
def f_M_dayOf (v0 : Int32) : Option Int32 :=
  if v0 ≤ (99 : Int32) then some v0 else some (99 : Int32)
theorem c_M_dayOf (d : Nat) (hd : 1 ≤ d) (v0 : Int32) (σ : gS) : C (rI σ) d m_M_dayOf [.int v0] σ (f_M_dayOf v0) := by
  unfold f_M_dayOf
  refine C.of (by decide +kernel) (Nat.le_of_ble_eq_true rfl) (L := [some (.int v0)]) rfl ?_
  refine S.of1 (pc2 := 1) (fun Q => g_iload_n d_M_dayOf_0 rfl) ?_
  refine S.of1 (pc2 := 3) (fun Q => g_bipush (v := (99 : Int32)) d_M_dayOf_1 (by decide)) ?_
  refine S.br (c := v0 ≤ (99 : Int32)) (t := 11) (e := 6) (fun Q kt kf => g_icmp_le d_M_dayOf_3 rfl kt kf) (fun h1 => ?_) (fun h1 => ?_)
  · refine S.of1 (pc2 := 12) (fun Q => g_iload_n d_M_dayOf_11 rfl) ?_
    exact S.ret (fun Q hq => g_iret rfl d_M_dayOf_12 hq)
  · refine S.of1 (pc2 := 8) (fun Q => g_bipush (v := (99 : Int32)) d_M_dayOf_6 (by decide)) ?_
    refine S.of1 (pc2 := 12) (fun Q => g_goto d_M_dayOf_8 rfl) ?_
    exact S.ret (fun Q hq => g_iret rfl d_M_dayOf_12 hq)
def f_M_happenedOn (v1 : Int32) (v2 : Int32) (σ : gS) : Option (Int32 × gS) :=
  if gix (((60 : Int32) * v1) + v2) 360 then (f_M_dayOf ((σ.1 60 42) + v2)).bind fun q2 => (f_M_allSay ((σ.2 78 (((60 : Int32) * v1) + v2).toNatClampNeg).toInt32) q2 σ).bind fun s3 => (f_M_everybody s3).bind fun q4 => (f_M_happenedBy q4 s3).bind fun q5 => some (q5, s3) else none
theorem c_M_happenedOn (d : Nat) (hd : 59 ≤ d) (v1 : Int32) (v2 : Int32) (σ : gS) : C wI d m_M_happenedOn [.ref 59, .int v1, .int v2] σ (f_M_happenedOn v1 v2 σ) := by
  unfold f_M_happenedOn
  refine C.of (by decide +kernel) (Nat.le_of_ble_eq_true rfl) (L := [some (.ref 59), some (.int v1), some (.int v2)]) rfl ?_
  refine S.of1 (pc2 := 1) (fun Q => g_aload_n d_M_happenedOn_0 rfl) ?_
  refine S.of1 (pc2 := 2) (fun Q => g_aload_n d_M_happenedOn_1 rfl) ?_
  refine S.of1 (pc2 := 5) (fun Q => g_getr fl_RX11_64 gc_59_38 d_M_happenedOn_2) ?_
  refine S.of1 (pc2 := 7) (fun Q => g_bipush (v := (60 : Int32)) d_M_happenedOn_5 (by decide)) ?_
  refine S.of1 (pc2 := 8) (fun Q => g_iload_n d_M_happenedOn_7 rfl) ?_
  refine S.of1 (pc2 := 9) (fun Q => g_imul d_M_happenedOn_8) ?_
  refine S.of1 (pc2 := 10) (fun Q => g_iload_n d_M_happenedOn_9 rfl) ?_
  refine S.of1 (pc2 := 11) (fun Q => g_iadd d_M_happenedOn_10) ?_
  refine S.chk (fun h1 => ?_)
  refine S.of1 (pc2 := 12) (fun Q => g_lald ga_78 (gix_in h1) d_M_happenedOn_11) ?_
  refine S.of1 (pc2 := 13) (fun Q => g_l2i d_M_happenedOn_12) ?_
  refine S.of1 (pc2 := 14) (fun Q => g_aload_n d_M_happenedOn_13 rfl) ?_
  refine S.of1 (pc2 := 17) (fun Q => g_getr fl_RX11_9 gc_59_0 d_M_happenedOn_14) ?_
  refine S.of1 (pc2 := 19) (fun Q => g_bipush (v := (42 : Int32)) d_M_happenedOn_17 (by decide)) ?_
  refine S.of1 (pc2 := 20) (fun Q => g_iald ga_60 (vp_lit rfl) d_M_happenedOn_19) ?_
  refine S.of1 (pc2 := 21) (fun Q => g_iload_n d_M_happenedOn_20 rfl) ?_
  refine S.of1 (pc2 := 22) (fun Q => g_iadd d_M_happenedOn_21) ?_
  refine S.call_rI (pc3 := 25) rfl (c_M_dayOf (d - 1) (by omega) ((σ.1 60 42) + v2) σ) (fun Q => g_callS (M2 := m_M_dayOf) (vs := [.int ((σ.1 60 42) + v2)]) (st := [.int ((σ.2 78 (((60 : Int32) * v1) + v2).toNatClampNeg).toInt32), .ref 59]) ls_RX11_255 rfl (Nat.le_of_ble_eq_true rfl) (by omega) (Nat.le_of_ble_eq_true rfl) rfl d_M_happenedOn_22) (fun q2 => ?_)
  refine S.call_wV (pc3 := 28) rfl (c_M_allSay (d - 1) (by omega) ((σ.2 78 (((60 : Int32) * v1) + v2).toNatClampNeg).toInt32) q2 σ) (fun Q => g_callV (M2 := m_M_allSay) (vs := [.int ((σ.2 78 (((60 : Int32) * v1) + v2).toNatClampNeg).toInt32), .int q2]) (st := []) lv_RX11_195 gk_59 rfl rfl (Nat.le_of_ble_eq_true rfl) (by omega) (Nat.le_of_ble_eq_true rfl) rfl d_M_happenedOn_25) (fun s3 => ?_)
  refine S.of1 (pc2 := 29) (fun Q => g_aload_n d_M_happenedOn_28 rfl) ?_
  refine S.of1 (pc2 := 30) (fun Q => g_aload_n d_M_happenedOn_29 rfl) ?_
  refine S.call_rI (pc3 := 33) rfl (c_M_everybody (d - 1) (by omega) s3) (fun Q => g_callV (M2 := m_M_everybody) (vs := []) (st := [.ref 59]) lv_RX11_211 gk_59 rfl rfl (Nat.le_of_ble_eq_true rfl) (by omega) (Nat.le_of_ble_eq_true rfl) rfl d_M_happenedOn_30) (fun q4 => ?_)
  refine S.call_rI (pc3 := 36) rfl (c_M_happenedBy (d - 1) (by omega) q4 s3) (fun Q => g_callV (M2 := m_M_happenedBy) (vs := [.int q4]) (st := []) lv_RX11_214 gk_59 rfl rfl (Nat.le_of_ble_eq_true rfl) (by omega) (Nat.le_of_ble_eq_true rfl) rfl d_M_happenedOn_33) (fun q5 => ?_)
  exact S.ret (fun Q hq => g_iret rfl d_M_happenedOn_36 hq)
def f_M_days_j142 (k51 : Int32 → Int32 → Int32 → Int32 → Int32 → Int32 → Int32 → gS → Option (Int32 × gS)) (v1 : Int32) (v2 : Int32) (v3 : Int32) (v4 : Int32) (v5 : Int32) (v7 : Int32) (s0 : Int32) (σ : gS) : Option (Int32 × gS) :=
  k51 v1 v2 v3 v4 v5 s0 (v7 + (1 : Int32)) σ
theorem s_M_days_j142 (d : Nat) (hd : 60 ≤ d) (k51 : Int32 → Int32 → Int32 → Int32 → Int32 → Int32 → Int32 → gS → Option (Int32 × gS)) (hk51 : ∀ (v1 : Int32) (v2 : Int32) (v3 : Int32) (v4 : Int32) (v5 : Int32) (v6 : Int32) (v7 : Int32) (τ : gS), S wI m_M_days d 51 [some (.ref 59), some (.int v1), some (.int v2), some (.int v3), some (.int v4), some (.int v5), some (.int v6), some (.int v7), none] [] τ (k51 v1 v2 v3 v4 v5 v6 v7 τ)) (v1 : Int32) (v2 : Int32) (v3 : Int32) (v4 : Int32) (v5 : Int32) (v7 : Int32) (s0 : Int32) (σ : gS) : S wI m_M_days d 142 [some (.ref 59), some (.int v1), some (.int v2), some (.int v3), some (.int v4), some (.int v5), none, some (.int v7), none] [.int s0] σ (f_M_days_j142 k51 v1 v2 v3 v4 v5 v7 s0 σ) := by
  unfold f_M_days_j142
  refine S.of1 (pc2 := 144) (L2 := [some (.ref 59), some (.int v1), some (.int v2), some (.int v3), some (.int v4), some (.int v5), some (.int s0), some (.int v7), none]) (fun Q => g_istore d_M_days_142 (Nat.le_of_ble_eq_true rfl) rfl) ?_
  refine S.of1 (pc2 := 147) (L2 := [some (.ref 59), some (.int v1), some (.int v2), some (.int v3), some (.int v4), some (.int v5), some (.int s0), some (.int (v7 + (1 : Int32))), none]) (fun Q => g_iinc d_M_days_144 rfl (congrArg (fun z => v7 + z) (by decide)) (Nat.le_of_ble_eq_true rfl) rfl) ?_
  refine S.of1 (pc2 := 51) (fun Q => g_goto d_M_days_147 rfl) ?_
  exact S.wk (L2 := [some (.ref 59), some (.int v1), some (.int v2), some (.int v3), some (.int v4), some (.int v5), some (.int s0), some (.int (v7 + (1 : Int32))), none]) (And.intro rfl (And.intro rfl (And.intro rfl (And.intro rfl (And.intro rfl (And.intro rfl (And.intro rfl (And.intro rfl trivial)))))))) (hk51 v1 v2 v3 v4 v5 s0 (v7 + (1 : Int32)) σ)
def f_M_days_j126 (k51 : Int32 → Int32 → Int32 → Int32 → Int32 → Int32 → Int32 → gS → Option (Int32 × gS)) (v1 : Int32) (v2 : Int32) (v3 : Int32) (v4 : Int32) (v6 : Int32) (v7 : Int32) (s0 : Int32) (σ : gS) : Option (Int32 × gS) :=
  if s0 ≤ v6 then f_M_days_j142 k51 v1 v2 v3 v4 s0 v7 v6 σ else f_M_days_j142 k51 v1 v2 v3 v4 s0 v7 s0 σ
theorem s_M_days_j126 (d : Nat) (hd : 60 ≤ d) (k51 : Int32 → Int32 → Int32 → Int32 → Int32 → Int32 → Int32 → gS → Option (Int32 × gS)) (hk51 : ∀ (v1 : Int32) (v2 : Int32) (v3 : Int32) (v4 : Int32) (v5 : Int32) (v6 : Int32) (v7 : Int32) (τ : gS), S wI m_M_days d 51 [some (.ref 59), some (.int v1), some (.int v2), some (.int v3), some (.int v4), some (.int v5), some (.int v6), some (.int v7), none] [] τ (k51 v1 v2 v3 v4 v5 v6 v7 τ)) (v1 : Int32) (v2 : Int32) (v3 : Int32) (v4 : Int32) (v6 : Int32) (v7 : Int32) (s0 : Int32) (σ : gS) : S wI m_M_days d 126 [some (.ref 59), some (.int v1), some (.int v2), some (.int v3), some (.int v4), none, some (.int v6), some (.int v7), none] [.int s0] σ (f_M_days_j126 k51 v1 v2 v3 v4 v6 v7 s0 σ) := by
  unfold f_M_days_j126
  refine S.of1 (pc2 := 128) (L2 := [some (.ref 59), some (.int v1), some (.int v2), some (.int v3), some (.int v4), some (.int s0), some (.int v6), some (.int v7), none]) (fun Q => g_istore d_M_days_126 (Nat.le_of_ble_eq_true rfl) rfl) ?_
  refine S.of1 (pc2 := 130) (fun Q => g_iload d_M_days_128 rfl) ?_
  refine S.of1 (pc2 := 132) (fun Q => g_iload d_M_days_130 rfl) ?_
  refine S.br (c := s0 ≤ v6) (t := 140) (e := 135) (fun Q kt kf => g_icmp_le d_M_days_132 rfl kt kf) (fun h16 => ?_) (fun h16 => ?_)
  · refine S.of1 (pc2 := 142) (fun Q => g_iload d_M_days_140 rfl) ?_
    exact S.wk (L2 := [some (.ref 59), some (.int v1), some (.int v2), some (.int v3), some (.int v4), some (.int s0), none, some (.int v7), none]) (And.intro rfl (And.intro rfl (And.intro rfl (And.intro rfl (And.intro rfl (And.intro rfl (And.intro rfl trivial))))))) (s_M_days_j142 d hd k51 hk51 v1 v2 v3 v4 s0 v7 v6 σ)
  · refine S.of1 (pc2 := 137) (fun Q => g_iload d_M_days_135 rfl) ?_
    refine S.of1 (pc2 := 142) (fun Q => g_goto d_M_days_137 rfl) ?_
    exact S.wk (L2 := [some (.ref 59), some (.int v1), some (.int v2), some (.int v3), some (.int v4), some (.int s0), none, some (.int v7), none]) (And.intro rfl (And.intro rfl (And.intro rfl (And.intro rfl (And.intro rfl (And.intro rfl (And.intro rfl trivial))))))) (s_M_days_j142 d hd k51 hk51 v1 v2 v3 v4 s0 v7 s0 σ)
def f_M_days_j110 (k51 : Int32 → Int32 → Int32 → Int32 → Int32 → Int32 → Int32 → gS → Option (Int32 × gS)) (v1 : Int32) (v2 : Int32) (v3 : Int32) (v5 : Int32) (v6 : Int32) (v7 : Int32) (v8 : Int32) (s0 : Int32) (s1 : Int32) (σ : gS) : Option (Int32 × gS) :=
  if v8 = 0 then f_M_days_j126 k51 v1 v2 v3 (s1 + s0) v6 v7 (v5 + (1 : Int32)) σ else f_M_days_j126 k51 v1 v2 v3 (s1 + s0) v6 v7 (0 : Int32) σ
theorem s_M_days_j110 (d : Nat) (hd : 60 ≤ d) (k51 : Int32 → Int32 → Int32 → Int32 → Int32 → Int32 → Int32 → gS → Option (Int32 × gS)) (hk51 : ∀ (v1 : Int32) (v2 : Int32) (v3 : Int32) (v4 : Int32) (v5 : Int32) (v6 : Int32) (v7 : Int32) (τ : gS), S wI m_M_days d 51 [some (.ref 59), some (.int v1), some (.int v2), some (.int v3), some (.int v4), some (.int v5), some (.int v6), some (.int v7), none] [] τ (k51 v1 v2 v3 v4 v5 v6 v7 τ)) (v1 : Int32) (v2 : Int32) (v3 : Int32) (v5 : Int32) (v6 : Int32) (v7 : Int32) (v8 : Int32) (s0 : Int32) (s1 : Int32) (σ : gS) : S wI m_M_days d 110 [some (.ref 59), some (.int v1), some (.int v2), some (.int v3), none, some (.int v5), some (.int v6), some (.int v7), some (.int v8)] [.int s0, .int s1] σ (f_M_days_j110 k51 v1 v2 v3 v5 v6 v7 v8 s0 s1 σ) := by
  unfold f_M_days_j110
  refine S.of1 (pc2 := 111) (fun Q => g_iadd d_M_days_110) ?_
  refine S.of1 (pc2 := 113) (L2 := [some (.ref 59), some (.int v1), some (.int v2), some (.int v3), some (.int (s1 + s0)), some (.int v5), some (.int v6), some (.int v7), some (.int v8)]) (fun Q => g_istore d_M_days_111 (Nat.le_of_ble_eq_true rfl) rfl) ?_
  refine S.of1 (pc2 := 115) (fun Q => g_iload d_M_days_113 rfl) ?_
  refine S.br (c := v8 = 0) (t := 118) (e := 125) (fun Q kt kf => g_if_ne d_M_days_115 rfl kf kt) (fun h15 => ?_) (fun h15 => ?_)
  · refine S.of1 (pc2 := 120) (fun Q => g_iload d_M_days_118 rfl) ?_
    refine S.of1 (pc2 := 121) (fun Q => g_iconst (v := (1 : Int32)) d_M_days_120 (by decide)) ?_
    refine S.of1 (pc2 := 122) (fun Q => g_iadd d_M_days_121) ?_
    refine S.of1 (pc2 := 126) (fun Q => g_goto d_M_days_122 rfl) ?_
    exact S.wk (L2 := [some (.ref 59), some (.int v1), some (.int v2), some (.int v3), some (.int (s1 + s0)), none, some (.int v6), some (.int v7), none]) (And.intro rfl (And.intro rfl (And.intro rfl (And.intro rfl (And.intro rfl (And.intro rfl (And.intro rfl trivial))))))) (s_M_days_j126 d hd k51 hk51 v1 v2 v3 (s1 + s0) v6 v7 (v5 + (1 : Int32)) σ)
  · refine S.of1 (pc2 := 126) (fun Q => g_iconst (v := (0 : Int32)) d_M_days_125 (by decide)) ?_
    exact S.wk (L2 := [some (.ref 59), some (.int v1), some (.int v2), some (.int v3), some (.int (s1 + s0)), none, some (.int v6), some (.int v7), none]) (And.intro rfl (And.intro rfl (And.intro rfl (And.intro rfl (And.intro rfl (And.intro rfl (And.intro rfl trivial))))))) (s_M_days_j126 d hd k51 hk51 v1 v2 v3 (s1 + s0) v6 v7 (0 : Int32) σ)
def f_M_days_j81 (k51 : Int32 → Int32 → Int32 → Int32 → Int32 → Int32 → Int32 → gS → Option (Int32 × gS)) (v1 : Int32) (v2 : Int32) (v4 : Int32) (v5 : Int32) (v6 : Int32) (v7 : Int32) (v8 : Int32) (s0 : Int32) (s1 : Int32) (σ : gS) : Option (Int32 × gS) :=
  if gix (((60 : Int32) * v1) + v7) 360 then if v8 = ((1 : Int32) <<< (((σ.2 78 (((60 : Int32) * v1) + v7).toNatClampNeg).toInt32) &&& 31)) then f_M_days_j110 k51 v1 v2 (s1 + s0) v5 v6 v7 v8 (1 : Int32) v4 σ else f_M_days_j110 k51 v1 v2 (s1 + s0) v5 v6 v7 v8 (0 : Int32) v4 σ else none
theorem s_M_days_j81 (d : Nat) (hd : 60 ≤ d) (k51 : Int32 → Int32 → Int32 → Int32 → Int32 → Int32 → Int32 → gS → Option (Int32 × gS)) (hk51 : ∀ (v1 : Int32) (v2 : Int32) (v3 : Int32) (v4 : Int32) (v5 : Int32) (v6 : Int32) (v7 : Int32) (τ : gS), S wI m_M_days d 51 [some (.ref 59), some (.int v1), some (.int v2), some (.int v3), some (.int v4), some (.int v5), some (.int v6), some (.int v7), none] [] τ (k51 v1 v2 v3 v4 v5 v6 v7 τ)) (v1 : Int32) (v2 : Int32) (v4 : Int32) (v5 : Int32) (v6 : Int32) (v7 : Int32) (v8 : Int32) (s0 : Int32) (s1 : Int32) (σ : gS) : S wI m_M_days d 81 [some (.ref 59), some (.int v1), some (.int v2), none, some (.int v4), some (.int v5), some (.int v6), some (.int v7), some (.int v8)] [.int s0, .int s1] σ (f_M_days_j81 k51 v1 v2 v4 v5 v6 v7 v8 s0 s1 σ) := by
  unfold f_M_days_j81
  refine S.of1 (pc2 := 82) (fun Q => g_iadd d_M_days_81) ?_
  refine S.of1 (pc2 := 83) (L2 := [some (.ref 59), some (.int v1), some (.int v2), some (.int (s1 + s0)), some (.int v4), some (.int v5), some (.int v6), some (.int v7), some (.int v8)]) (fun Q => g_istore_n d_M_days_82 (Nat.le_of_ble_eq_true rfl) rfl) ?_
  refine S.of1 (pc2 := 85) (fun Q => g_iload d_M_days_83 rfl) ?_
  refine S.of1 (pc2 := 87) (fun Q => g_iload d_M_days_85 rfl) ?_
  refine S.of1 (pc2 := 88) (fun Q => g_iconst (v := (1 : Int32)) d_M_days_87 (by decide)) ?_
  refine S.of1 (pc2 := 89) (fun Q => g_aload_n d_M_days_88 rfl) ?_
  refine S.of1 (pc2 := 92) (fun Q => g_getr fl_RX11_64 gc_59_38 d_M_days_89) ?_
  refine S.of1 (pc2 := 94) (fun Q => g_bipush (v := (60 : Int32)) d_M_days_92 (by decide)) ?_
  refine S.of1 (pc2 := 95) (fun Q => g_iload_n d_M_days_94 rfl) ?_
  refine S.of1 (pc2 := 96) (fun Q => g_imul d_M_days_95) ?_
  refine S.of1 (pc2 := 98) (fun Q => g_iload d_M_days_96 rfl) ?_
  refine S.of1 (pc2 := 99) (fun Q => g_iadd d_M_days_98) ?_
  refine S.chk (fun h13 => ?_)
  refine S.of1 (pc2 := 100) (fun Q => g_lald ga_78 (gix_in h13) d_M_days_99) ?_
  refine S.of1 (pc2 := 101) (fun Q => g_l2i d_M_days_100) ?_
  refine S.of1 (pc2 := 102) (fun Q => g_ishl d_M_days_101) ?_
  refine S.br (c := v8 = ((1 : Int32) <<< (((σ.2 78 (((60 : Int32) * v1) + v7).toNatClampNeg).toInt32) &&& 31))) (t := 105) (e := 109) (fun Q kt kf => g_icmp_ne d_M_days_102 rfl kf kt) (fun h14 => ?_) (fun h14 => ?_)
  · refine S.of1 (pc2 := 106) (fun Q => g_iconst (v := (1 : Int32)) d_M_days_105 (by decide)) ?_
    refine S.of1 (pc2 := 110) (fun Q => g_goto d_M_days_106 rfl) ?_
    exact S.wk (L2 := [some (.ref 59), some (.int v1), some (.int v2), some (.int (s1 + s0)), none, some (.int v5), some (.int v6), some (.int v7), some (.int v8)]) (And.intro rfl (And.intro rfl (And.intro rfl (And.intro rfl (And.intro rfl (And.intro rfl (And.intro rfl (And.intro rfl trivial)))))))) (s_M_days_j110 d hd k51 hk51 v1 v2 (s1 + s0) v5 v6 v7 v8 (1 : Int32) v4 σ)
  · refine S.of1 (pc2 := 110) (fun Q => g_iconst (v := (0 : Int32)) d_M_days_109 (by decide)) ?_
    exact S.wk (L2 := [some (.ref 59), some (.int v1), some (.int v2), some (.int (s1 + s0)), none, some (.int v5), some (.int v6), some (.int v7), some (.int v8)]) (And.intro rfl (And.intro rfl (And.intro rfl (And.intro rfl (And.intro rfl (And.intro rfl (And.intro rfl (And.intro rfl trivial)))))))) (s_M_days_j110 d hd k51 hk51 v1 v2 (s1 + s0) v5 v6 v7 v8 (0 : Int32) v4 σ)
def f_M_days_L51 : Nat → Int32 → Int32 → Int32 → Int32 → Int32 → Int32 → Int32 → gS → Option (Int32 × gS)
  | 0, _, _, _, _, _, _, _, _ => none
  | n + 1, v1, v2, v3, v4, v5, v6, v7, σ =>
  (f_M_dayMany v1 σ).bind fun q7 => if q7 ≤ v7 then if v2 = 0 then some (v3, σ) else if v2 = (1 : Int32) then some (v4, σ) else some (v6, σ) else (f_M_happenedOn v1 v7 σ).bind fun q11 => if q11.1 = 0 then f_M_days_j81 (fun v1 v2 v3 v4 v5 v6 v7 σ => f_M_days_L51 n v1 v2 v3 v4 v5 v6 v7 σ) v1 v2 v4 v5 v6 v7 q11.1 (0 : Int32) v3 q11.2 else f_M_days_j81 (fun v1 v2 v3 v4 v5 v6 v7 σ => f_M_days_L51 n v1 v2 v3 v4 v5 v6 v7 σ) v1 v2 v4 v5 v6 v7 q11.1 (1 : Int32) v3 q11.2
theorem s_M_days_L51 (d : Nat) (hd : 60 ≤ d) : ∀ (n : Nat) (v1 : Int32) (v2 : Int32) (v3 : Int32) (v4 : Int32) (v5 : Int32) (v6 : Int32) (v7 : Int32) (σ : gS), S wI m_M_days d 51 [some (.ref 59), some (.int v1), some (.int v2), some (.int v3), some (.int v4), some (.int v5), some (.int v6), some (.int v7), none] [] σ (f_M_days_L51 n v1 v2 v3 v4 v5 v6 v7 σ) := by
  intro n
  induction n with
  | zero =>
    intros
    unfold f_M_days_L51
    exact S.no
  | succ n ih =>
    intro v1 v2 v3 v4 v5 v6 v7 σ
    unfold f_M_days_L51
    refine S.of1 (pc2 := 53) (fun Q => g_iload d_M_days_51 rfl) ?_
    refine S.of1 (pc2 := 54) (fun Q => g_aload_n d_M_days_53 rfl) ?_
    refine S.of1 (pc2 := 55) (fun Q => g_iload_n d_M_days_54 rfl) ?_
    refine S.call_rI (pc3 := 58) rfl (c_M_dayMany (d - 1) (by omega) v1 σ) (fun Q => g_callV (M2 := m_M_dayMany) (vs := [.int v1]) (st := [.int v7]) lv_RX11_258 gk_59 rfl rfl (Nat.le_of_ble_eq_true rfl) (by omega) (Nat.le_of_ble_eq_true rfl) rfl d_M_days_55) (fun q7 => ?_)
    refine S.br (c := q7 ≤ v7) (t := 150) (e := 61) (fun Q kt kf => g_icmp_ge d_M_days_58 rfl kt kf) (fun h8 => ?_) (fun h8 => ?_)
    · refine S.of1 (pc2 := 151) (fun Q => g_iload_n d_M_days_150 rfl) ?_
      refine S.br (c := v2 = 0) (t := 154) (e := 158) (fun Q kt kf => g_if_ne d_M_days_151 rfl kf kt) (fun h9 => ?_) (fun h9 => ?_)
      · refine S.of1 (pc2 := 155) (fun Q => g_iload_n d_M_days_154 rfl) ?_
        refine S.of1 (pc2 := 170) (fun Q => g_goto d_M_days_155 rfl) ?_
        exact S.ret (fun Q hq => g_iret rfl d_M_days_170 hq)
      · refine S.of1 (pc2 := 159) (fun Q => g_iload_n d_M_days_158 rfl) ?_
        refine S.of1 (pc2 := 160) (fun Q => g_iconst (v := (1 : Int32)) d_M_days_159 (by decide)) ?_
        refine S.br (c := v2 = (1 : Int32)) (t := 163) (e := 168) (fun Q kt kf => g_icmp_ne d_M_days_160 rfl kf kt) (fun h10 => ?_) (fun h10 => ?_)
        · refine S.of1 (pc2 := 165) (fun Q => g_iload d_M_days_163 rfl) ?_
          refine S.of1 (pc2 := 170) (fun Q => g_goto d_M_days_165 rfl) ?_
          exact S.ret (fun Q hq => g_iret rfl d_M_days_170 hq)
        · refine S.of1 (pc2 := 170) (fun Q => g_iload d_M_days_168 rfl) ?_
          exact S.ret (fun Q hq => g_iret rfl d_M_days_170 hq)
    · refine S.of1 (pc2 := 62) (fun Q => g_aload_n d_M_days_61 rfl) ?_
      refine S.of1 (pc2 := 63) (fun Q => g_iload_n d_M_days_62 rfl) ?_
      refine S.of1 (pc2 := 65) (fun Q => g_iload d_M_days_63 rfl) ?_
      refine S.call_wI (pc3 := 68) rfl (c_M_happenedOn (d - 1) (by omega) v1 v7 σ) (fun Q => g_callV (M2 := m_M_happenedOn) (vs := [.int v1, .int v7]) (st := []) lv_RX11_261 gk_59 rfl rfl (Nat.le_of_ble_eq_true rfl) (by omega) (Nat.le_of_ble_eq_true rfl) rfl d_M_days_65) (fun q11 => ?_)
      refine S.of1 (pc2 := 70) (L2 := [some (.ref 59), some (.int v1), some (.int v2), some (.int v3), some (.int v4), some (.int v5), some (.int v6), some (.int v7), some (.int q11.1)]) (fun Q => g_istore d_M_days_68 (Nat.le_of_ble_eq_true rfl) rfl) ?_
      refine S.of1 (pc2 := 71) (fun Q => g_iload_n d_M_days_70 rfl) ?_
      refine S.of1 (pc2 := 73) (fun Q => g_iload d_M_days_71 rfl) ?_
      refine S.br (c := q11.1 = 0) (t := 80) (e := 76) (fun Q kt kf => g_if_eq d_M_days_73 rfl kt kf) (fun h12 => ?_) (fun h12 => ?_)
      · refine S.of1 (pc2 := 81) (fun Q => g_iconst (v := (0 : Int32)) d_M_days_80 (by decide)) ?_
        exact S.wk (L2 := [some (.ref 59), some (.int v1), some (.int v2), none, some (.int v4), some (.int v5), some (.int v6), some (.int v7), some (.int q11.1)]) (And.intro rfl (And.intro rfl (And.intro rfl (And.intro rfl (And.intro rfl (And.intro rfl (And.intro rfl (And.intro rfl trivial)))))))) (s_M_days_j81 d hd (fun v1 v2 v3 v4 v5 v6 v7 σ => f_M_days_L51 n v1 v2 v3 v4 v5 v6 v7 σ) (fun v1 v2 v3 v4 v5 v6 v7 τ => ih v1 v2 v3 v4 v5 v6 v7 τ) v1 v2 v4 v5 v6 v7 q11.1 (0 : Int32) v3 q11.2)
      · refine S.of1 (pc2 := 77) (fun Q => g_iconst (v := (1 : Int32)) d_M_days_76 (by decide)) ?_
        refine S.of1 (pc2 := 81) (fun Q => g_goto d_M_days_77 rfl) ?_
        exact S.wk (L2 := [some (.ref 59), some (.int v1), some (.int v2), none, some (.int v4), some (.int v5), some (.int v6), some (.int v7), some (.int q11.1)]) (And.intro rfl (And.intro rfl (And.intro rfl (And.intro rfl (And.intro rfl (And.intro rfl (And.intro rfl (And.intro rfl trivial)))))))) (s_M_days_j81 d hd (fun v1 v2 v3 v4 v5 v6 v7 σ => f_M_days_L51 n v1 v2 v3 v4 v5 v6 v7 σ) (fun v1 v2 v3 v4 v5 v6 v7 τ => ih v1 v2 v3 v4 v5 v6 v7 τ) v1 v2 v4 v5 v6 v7 q11.1 (1 : Int32) v3 q11.2)
def f_M_days (v1 : Int32) (v2 : Int32) (σ : gS) : Option (Int32 × gS) :=
  (f_M_bytesIs v1 σ).bind fun q1 => if q1 = (-1 : Int32) then some ((-1 : Int32), σ) else (f_M_within (v2.toInt64) (0 : Int64) (2 : Int64)).bind fun q3 => if q3 = 0 then some ((-1 : Int32), σ) else (f_M_bytesIs v1 σ).bind fun q5 => if 0 ≤ q5 then f_M_days_L51 gfu v1 v2 (0 : Int32) (0 : Int32) (0 : Int32) (0 : Int32) (0 : Int32) σ else (f_M_bytesIs v1 σ).bind fun q17 => some (q17, σ)
theorem c_M_days (d : Nat) (hd : 60 ≤ d) (v1 : Int32) (v2 : Int32) (σ : gS) : C wI d m_M_days [.ref 59, .int v1, .int v2] σ (f_M_days v1 v2 σ) := by
  unfold f_M_days
  refine C.of (by decide +kernel) (Nat.le_of_ble_eq_true rfl) (L := [some (.ref 59), some (.int v1), some (.int v2), none, none, none, none, none, none]) rfl ?_
  refine S.of1 (pc2 := 1) (fun Q => g_aload_n d_M_days_0 rfl) ?_
  refine S.of1 (pc2 := 2) (fun Q => g_iload_n d_M_days_1 rfl) ?_
  refine S.call_rI (pc3 := 5) rfl (c_M_bytesIs (d - 1) (by omega) v1 σ) (fun Q => g_callV (M2 := m_M_bytesIs) (vs := [.int v1]) (st := []) lv_RX11_220 gk_59 rfl rfl (Nat.le_of_ble_eq_true rfl) (by omega) (Nat.le_of_ble_eq_true rfl) rfl d_M_days_2) (fun q1 => ?_)
  refine S.of1 (pc2 := 6) (fun Q => g_iconst (v := (-1 : Int32)) d_M_days_5 (by decide)) ?_
  refine S.br (c := q1 = (-1 : Int32)) (t := 21) (e := 9) (fun Q kt kf => g_icmp_eq d_M_days_6 rfl kt kf) (fun h2 => ?_) (fun h2 => ?_)
  · refine S.of1 (pc2 := 22) (fun Q => g_iconst (v := (-1 : Int32)) d_M_days_21 (by decide)) ?_
    exact S.ret (fun Q hq => g_iret rfl d_M_days_22 hq)
  · refine S.of1 (pc2 := 10) (fun Q => g_iload_n d_M_days_9 rfl) ?_
    refine S.of1 (pc2 := 11) (fun Q => g_i2l d_M_days_10) ?_
    refine S.of1 (pc2 := 12) (fun Q => g_lconst (v := (0 : Int64)) d_M_days_11 (by decide)) ?_
    refine S.of1 (pc2 := 15) (fun Q => g_ldc2 (v := (2 : Int64)) d_M_days_12 w_1311) ?_
    refine S.call_rI (pc3 := 18) rfl (c_M_within (d - 1) (by omega) (v2.toInt64) (0 : Int64) (2 : Int64) σ) (fun Q => g_callS (M2 := m_M_within) (vs := [.long (v2.toInt64), .long (0 : Int64), .long (2 : Int64)]) (st := []) ls_RX11_84 rfl (Nat.le_of_ble_eq_true rfl) (by omega) (Nat.le_of_ble_eq_true rfl) rfl d_M_days_15) (fun q3 => ?_)
    refine S.br (c := q3 = 0) (t := 21) (e := 23) (fun Q kt kf => g_if_ne d_M_days_18 rfl kf kt) (fun h4 => ?_) (fun h4 => ?_)
    · refine S.of1 (pc2 := 22) (fun Q => g_iconst (v := (-1 : Int32)) d_M_days_21 (by decide)) ?_
      exact S.ret (fun Q hq => g_iret rfl d_M_days_22 hq)
    · refine S.of1 (pc2 := 24) (fun Q => g_aload_n d_M_days_23 rfl) ?_
      refine S.of1 (pc2 := 25) (fun Q => g_iload_n d_M_days_24 rfl) ?_
      refine S.call_rI (pc3 := 28) rfl (c_M_bytesIs (d - 1) (by omega) v1 σ) (fun Q => g_callV (M2 := m_M_bytesIs) (vs := [.int v1]) (st := []) lv_RX11_220 gk_59 rfl rfl (Nat.le_of_ble_eq_true rfl) (by omega) (Nat.le_of_ble_eq_true rfl) rfl d_M_days_25) (fun q5 => ?_)
      refine S.br (c := 0 ≤ q5) (t := 37) (e := 31) (fun Q kt kf => g_if_ge d_M_days_28 rfl kt kf) (fun h6 => ?_) (fun h6 => ?_)
      · refine S.of1 (pc2 := 38) (fun Q => g_iconst (v := (0 : Int32)) d_M_days_37 (by decide)) ?_
        refine S.of1 (pc2 := 39) (L2 := [some (.ref 59), some (.int v1), some (.int v2), some (.int (0 : Int32)), none, none, none, none, none]) (fun Q => g_istore_n d_M_days_38 (Nat.le_of_ble_eq_true rfl) rfl) ?_
        refine S.of1 (pc2 := 40) (fun Q => g_iconst (v := (0 : Int32)) d_M_days_39 (by decide)) ?_
        refine S.of1 (pc2 := 42) (L2 := [some (.ref 59), some (.int v1), some (.int v2), some (.int (0 : Int32)), some (.int (0 : Int32)), none, none, none, none]) (fun Q => g_istore d_M_days_40 (Nat.le_of_ble_eq_true rfl) rfl) ?_
        refine S.of1 (pc2 := 43) (fun Q => g_iconst (v := (0 : Int32)) d_M_days_42 (by decide)) ?_
        refine S.of1 (pc2 := 45) (L2 := [some (.ref 59), some (.int v1), some (.int v2), some (.int (0 : Int32)), some (.int (0 : Int32)), some (.int (0 : Int32)), none, none, none]) (fun Q => g_istore d_M_days_43 (Nat.le_of_ble_eq_true rfl) rfl) ?_
        refine S.of1 (pc2 := 46) (fun Q => g_iconst (v := (0 : Int32)) d_M_days_45 (by decide)) ?_
        refine S.of1 (pc2 := 48) (L2 := [some (.ref 59), some (.int v1), some (.int v2), some (.int (0 : Int32)), some (.int (0 : Int32)), some (.int (0 : Int32)), some (.int (0 : Int32)), none, none]) (fun Q => g_istore d_M_days_46 (Nat.le_of_ble_eq_true rfl) rfl) ?_
        refine S.of1 (pc2 := 49) (fun Q => g_iconst (v := (0 : Int32)) d_M_days_48 (by decide)) ?_
        refine S.of1 (pc2 := 51) (L2 := [some (.ref 59), some (.int v1), some (.int v2), some (.int (0 : Int32)), some (.int (0 : Int32)), some (.int (0 : Int32)), some (.int (0 : Int32)), some (.int (0 : Int32)), none]) (fun Q => g_istore d_M_days_49 (Nat.le_of_ble_eq_true rfl) rfl) ?_
        exact S.wk (L2 := [some (.ref 59), some (.int v1), some (.int v2), some (.int (0 : Int32)), some (.int (0 : Int32)), some (.int (0 : Int32)), some (.int (0 : Int32)), some (.int (0 : Int32)), none]) (And.intro rfl (And.intro rfl (And.intro rfl (And.intro rfl (And.intro rfl (And.intro rfl (And.intro rfl (And.intro rfl trivial)))))))) (s_M_days_L51 d hd gfu v1 v2 (0 : Int32) (0 : Int32) (0 : Int32) (0 : Int32) (0 : Int32) σ)
      · refine S.of1 (pc2 := 32) (fun Q => g_aload_n d_M_days_31 rfl) ?_
        refine S.of1 (pc2 := 33) (fun Q => g_iload_n d_M_days_32 rfl) ?_
        refine S.call_rI (pc3 := 36) rfl (c_M_bytesIs (d - 1) (by omega) v1 σ) (fun Q => g_callV (M2 := m_M_bytesIs) (vs := [.int v1]) (st := []) lv_RX11_220 gk_59 rfl rfl (Nat.le_of_ble_eq_true rfl) (by omega) (Nat.le_of_ble_eq_true rfl) rfl d_M_days_33) (fun q17 => ?_)
        exact S.ret (fun Q hq => g_iret rfl d_M_days_36 hq)
def f_M_rowsAre (v1 : Int32) (σ : gS) : Option Int32 :=
  if v1 < 0 then some (-1 : Int32) else (f_M_isShelf (v1 / (10 : Int32))).bind fun q2 => if q2 = 0 then some (-1 : Int32) else (f_M_isShelf (grem v1 (10 : Int32))).bind fun q4 => if q4 = 0 then some (-1 : Int32) else (f_M_bytesIs (v1 / (10 : Int32)) σ).bind fun q6 => if 0 ≤ q6 then (f_M_bytesIs (grem v1 (10 : Int32)) σ).bind fun q8 => some q8 else (f_M_bytesIs (v1 / (10 : Int32)) σ).bind fun q9 => some q9
theorem c_M_rowsAre (d : Nat) (hd : 4 ≤ d) (v1 : Int32) (σ : gS) : C (rI σ) d m_M_rowsAre [.ref 59, .int v1] σ (f_M_rowsAre v1 σ) := by
  unfold f_M_rowsAre
  refine C.of (by decide +kernel) (Nat.le_of_ble_eq_true rfl) (L := [some (.ref 59), some (.int v1)]) rfl ?_
  refine S.of1 (pc2 := 1) (fun Q => g_iload_n d_M_rowsAre_0 rfl) ?_
  refine S.br (c := v1 < 0) (t := 24) (e := 4) (fun Q kt kf => g_if_lt d_M_rowsAre_1 rfl kt kf) (fun h1 => ?_) (fun h1 => ?_)
  · refine S.of1 (pc2 := 25) (fun Q => g_iconst (v := (-1 : Int32)) d_M_rowsAre_24 (by decide)) ?_
    exact S.ret (fun Q hq => g_iret rfl d_M_rowsAre_25 hq)
  · refine S.of1 (pc2 := 5) (fun Q => g_iload_n d_M_rowsAre_4 rfl) ?_
    refine S.of1 (pc2 := 7) (fun Q => g_bipush (v := (10 : Int32)) d_M_rowsAre_5 (by decide)) ?_
    refine S.of1 (pc2 := 8) (fun Q => g_idiv d_M_rowsAre_7 (by decide)) ?_
    refine S.call_rI (pc3 := 11) rfl (c_M_isShelf (d - 1) (by omega) (v1 / (10 : Int32)) σ) (fun Q => g_callS (M2 := m_M_isShelf) (vs := [.int (v1 / (10 : Int32))]) (st := []) ls_RX11_103 rfl (Nat.le_of_ble_eq_true rfl) (by omega) (Nat.le_of_ble_eq_true rfl) rfl d_M_rowsAre_8) (fun q2 => ?_)
    refine S.br (c := q2 = 0) (t := 24) (e := 14) (fun Q kt kf => g_if_eq d_M_rowsAre_11 rfl kt kf) (fun h3 => ?_) (fun h3 => ?_)
    · refine S.of1 (pc2 := 25) (fun Q => g_iconst (v := (-1 : Int32)) d_M_rowsAre_24 (by decide)) ?_
      exact S.ret (fun Q hq => g_iret rfl d_M_rowsAre_25 hq)
    · refine S.of1 (pc2 := 15) (fun Q => g_iload_n d_M_rowsAre_14 rfl) ?_
      refine S.of1 (pc2 := 17) (fun Q => g_bipush (v := (10 : Int32)) d_M_rowsAre_15 (by decide)) ?_
      refine S.of1 (pc2 := 18) (fun Q => g_irem d_M_rowsAre_17 (by decide)) ?_
      refine S.call_rI (pc3 := 21) rfl (c_M_isShelf (d - 1) (by omega) (grem v1 (10 : Int32)) σ) (fun Q => g_callS (M2 := m_M_isShelf) (vs := [.int (grem v1 (10 : Int32))]) (st := []) ls_RX11_103 rfl (Nat.le_of_ble_eq_true rfl) (by omega) (Nat.le_of_ble_eq_true rfl) rfl d_M_rowsAre_18) (fun q4 => ?_)
      refine S.br (c := q4 = 0) (t := 24) (e := 26) (fun Q kt kf => g_if_ne d_M_rowsAre_21 rfl kf kt) (fun h5 => ?_) (fun h5 => ?_)
      · refine S.of1 (pc2 := 25) (fun Q => g_iconst (v := (-1 : Int32)) d_M_rowsAre_24 (by decide)) ?_
        exact S.ret (fun Q hq => g_iret rfl d_M_rowsAre_25 hq)
      · refine S.of1 (pc2 := 27) (fun Q => g_aload_n d_M_rowsAre_26 rfl) ?_
        refine S.of1 (pc2 := 28) (fun Q => g_iload_n d_M_rowsAre_27 rfl) ?_
        refine S.of1 (pc2 := 30) (fun Q => g_bipush (v := (10 : Int32)) d_M_rowsAre_28 (by decide)) ?_
        refine S.of1 (pc2 := 31) (fun Q => g_idiv d_M_rowsAre_30 (by decide)) ?_
        refine S.call_rI (pc3 := 34) rfl (c_M_bytesIs (d - 1) (by omega) (v1 / (10 : Int32)) σ) (fun Q => g_callV (M2 := m_M_bytesIs) (vs := [.int (v1 / (10 : Int32))]) (st := []) lv_RX11_220 gk_59 rfl rfl (Nat.le_of_ble_eq_true rfl) (by omega) (Nat.le_of_ble_eq_true rfl) rfl d_M_rowsAre_31) (fun q6 => ?_)
        refine S.br (c := 0 ≤ q6) (t := 48) (e := 37) (fun Q kt kf => g_if_ge d_M_rowsAre_34 rfl kt kf) (fun h7 => ?_) (fun h7 => ?_)
        · refine S.of1 (pc2 := 49) (fun Q => g_aload_n d_M_rowsAre_48 rfl) ?_
          refine S.of1 (pc2 := 50) (fun Q => g_iload_n d_M_rowsAre_49 rfl) ?_
          refine S.of1 (pc2 := 52) (fun Q => g_bipush (v := (10 : Int32)) d_M_rowsAre_50 (by decide)) ?_
          refine S.of1 (pc2 := 53) (fun Q => g_irem d_M_rowsAre_52 (by decide)) ?_
          refine S.call_rI (pc3 := 56) rfl (c_M_bytesIs (d - 1) (by omega) (grem v1 (10 : Int32)) σ) (fun Q => g_callV (M2 := m_M_bytesIs) (vs := [.int (grem v1 (10 : Int32))]) (st := []) lv_RX11_220 gk_59 rfl rfl (Nat.le_of_ble_eq_true rfl) (by omega) (Nat.le_of_ble_eq_true rfl) rfl d_M_rowsAre_53) (fun q8 => ?_)
          exact S.ret (fun Q hq => g_iret rfl d_M_rowsAre_56 hq)
        · refine S.of1 (pc2 := 38) (fun Q => g_aload_n d_M_rowsAre_37 rfl) ?_
          refine S.of1 (pc2 := 39) (fun Q => g_iload_n d_M_rowsAre_38 rfl) ?_
          refine S.of1 (pc2 := 41) (fun Q => g_bipush (v := (10 : Int32)) d_M_rowsAre_39 (by decide)) ?_
          refine S.of1 (pc2 := 42) (fun Q => g_idiv d_M_rowsAre_41 (by decide)) ?_
          refine S.call_rI (pc3 := 45) rfl (c_M_bytesIs (d - 1) (by omega) (v1 / (10 : Int32)) σ) (fun Q => g_callV (M2 := m_M_bytesIs) (vs := [.int (v1 / (10 : Int32))]) (st := []) lv_RX11_220 gk_59 rfl rfl (Nat.le_of_ble_eq_true rfl) (by omega) (Nat.le_of_ble_eq_true rfl) rfl d_M_rowsAre_42) (fun q9 => ?_)
          refine S.of1 (pc2 := 56) (fun Q => g_goto d_M_rowsAre_45 rfl) ?_
          exact S.ret (fun Q hq => g_iret rfl d_M_rowsAre_56 hq)
def f_M_firstFalse_L2 : Nat → Int32 → Int32 → gS → Option (Int32 × gS)
  | 0, _, _, _ => none
  | n + 1, v1, v2, σ =>
  if gix (grem v1 (10 : Int32)) 6 then if (σ.1 77 (grem v1 (10 : Int32)).toNatClampNeg) ≤ v2 then some ((-2 : Int32), σ) else (f_M_dayMany (v1 / (10 : Int32)) σ).bind fun q3 => if q3 ≤ v2 then some (v2, σ) else if gix (((60 : Int32) * (grem v1 (10 : Int32))) + v2) 360 then (f_M_happenedOn (v1 / (10 : Int32)) v2 σ).bind fun q6 => if (lg_cmp (σ.2 78 (((60 : Int32) * (grem v1 (10 : Int32))) + v2).toNatClampNeg) (q6.1.toInt64)) = 0 then (fun v1 v2 σ => f_M_firstFalse_L2 n v1 v2 σ) v1 (v2 + (1 : Int32)) q6.2 else some (v2, q6.2) else none else none
theorem s_M_firstFalse_L2 (d : Nat) (hd : 60 ≤ d) : ∀ (n : Nat) (v1 : Int32) (v2 : Int32) (σ : gS), S wI m_M_firstFalse d 2 [some (.ref 59), some (.int v1), some (.int v2)] [] σ (f_M_firstFalse_L2 n v1 v2 σ) := by
  intro n
  induction n with
  | zero =>
    intros
    unfold f_M_firstFalse_L2
    exact S.no
  | succ n ih =>
    intro v1 v2 σ
    unfold f_M_firstFalse_L2
    refine S.of1 (pc2 := 3) (fun Q => g_iload_n d_M_firstFalse_2 rfl) ?_
    refine S.of1 (pc2 := 4) (fun Q => g_aload_n d_M_firstFalse_3 rfl) ?_
    refine S.of1 (pc2 := 7) (fun Q => g_getr fl_RX11_61 gc_59_37 d_M_firstFalse_4) ?_
    refine S.of1 (pc2 := 8) (fun Q => g_iload_n d_M_firstFalse_7 rfl) ?_
    refine S.of1 (pc2 := 10) (fun Q => g_bipush (v := (10 : Int32)) d_M_firstFalse_8 (by decide)) ?_
    refine S.of1 (pc2 := 11) (fun Q => g_irem d_M_firstFalse_10 (by decide)) ?_
    refine S.chk (fun h1 => ?_)
    refine S.of1 (pc2 := 12) (fun Q => g_iald ga_77 (gix_in h1) d_M_firstFalse_11) ?_
    refine S.br (c := (σ.1 77 (grem v1 (10 : Int32)).toNatClampNeg) ≤ v2) (t := 63) (e := 15) (fun Q kt kf => g_icmp_ge d_M_firstFalse_12 rfl kt kf) (fun h2 => ?_) (fun h2 => ?_)
    · refine S.of1 (pc2 := 65) (fun Q => g_bipush (v := (-2 : Int32)) d_M_firstFalse_63 (by decide)) ?_
      exact S.ret (fun Q hq => g_iret rfl d_M_firstFalse_65 hq)
    · refine S.of1 (pc2 := 16) (fun Q => g_iload_n d_M_firstFalse_15 rfl) ?_
      refine S.of1 (pc2 := 17) (fun Q => g_aload_n d_M_firstFalse_16 rfl) ?_
      refine S.of1 (pc2 := 18) (fun Q => g_iload_n d_M_firstFalse_17 rfl) ?_
      refine S.of1 (pc2 := 20) (fun Q => g_bipush (v := (10 : Int32)) d_M_firstFalse_18 (by decide)) ?_
      refine S.of1 (pc2 := 21) (fun Q => g_idiv d_M_firstFalse_20 (by decide)) ?_
      refine S.call_rI (pc3 := 24) rfl (c_M_dayMany (d - 1) (by omega) (v1 / (10 : Int32)) σ) (fun Q => g_callV (M2 := m_M_dayMany) (vs := [.int (v1 / (10 : Int32))]) (st := [.int v2]) lv_RX11_258 gk_59 rfl rfl (Nat.le_of_ble_eq_true rfl) (by omega) (Nat.le_of_ble_eq_true rfl) rfl d_M_firstFalse_21) (fun q3 => ?_)
      refine S.br (c := q3 ≤ v2) (t := 55) (e := 27) (fun Q kt kf => g_icmp_ge d_M_firstFalse_24 rfl kt kf) (fun h4 => ?_) (fun h4 => ?_)
      · refine S.of1 (pc2 := 56) (fun Q => g_iload_n d_M_firstFalse_55 rfl) ?_
        exact S.ret (fun Q hq => g_iret rfl d_M_firstFalse_56 hq)
      · refine S.of1 (pc2 := 28) (fun Q => g_aload_n d_M_firstFalse_27 rfl) ?_
        refine S.of1 (pc2 := 31) (fun Q => g_getr fl_RX11_64 gc_59_38 d_M_firstFalse_28) ?_
        refine S.of1 (pc2 := 33) (fun Q => g_bipush (v := (60 : Int32)) d_M_firstFalse_31 (by decide)) ?_
        refine S.of1 (pc2 := 34) (fun Q => g_iload_n d_M_firstFalse_33 rfl) ?_
        refine S.of1 (pc2 := 36) (fun Q => g_bipush (v := (10 : Int32)) d_M_firstFalse_34 (by decide)) ?_
        refine S.of1 (pc2 := 37) (fun Q => g_irem d_M_firstFalse_36 (by decide)) ?_
        refine S.of1 (pc2 := 38) (fun Q => g_imul d_M_firstFalse_37) ?_
        refine S.of1 (pc2 := 39) (fun Q => g_iload_n d_M_firstFalse_38 rfl) ?_
        refine S.of1 (pc2 := 40) (fun Q => g_iadd d_M_firstFalse_39) ?_
        refine S.chk (fun h5 => ?_)
        refine S.of1 (pc2 := 41) (fun Q => g_lald ga_78 (gix_in h5) d_M_firstFalse_40) ?_
        refine S.of1 (pc2 := 42) (fun Q => g_aload_n d_M_firstFalse_41 rfl) ?_
        refine S.of1 (pc2 := 43) (fun Q => g_iload_n d_M_firstFalse_42 rfl) ?_
        refine S.of1 (pc2 := 45) (fun Q => g_bipush (v := (10 : Int32)) d_M_firstFalse_43 (by decide)) ?_
        refine S.of1 (pc2 := 46) (fun Q => g_idiv d_M_firstFalse_45 (by decide)) ?_
        refine S.of1 (pc2 := 47) (fun Q => g_iload_n d_M_firstFalse_46 rfl) ?_
        refine S.call_wI (pc3 := 50) rfl (c_M_happenedOn (d - 1) (by omega) (v1 / (10 : Int32)) v2 σ) (fun Q => g_callV (M2 := m_M_happenedOn) (vs := [.int (v1 / (10 : Int32)), .int v2]) (st := [.long (σ.2 78 (((60 : Int32) * (grem v1 (10 : Int32))) + v2).toNatClampNeg)]) lv_RX11_261 gk_59 rfl rfl (Nat.le_of_ble_eq_true rfl) (by omega) (Nat.le_of_ble_eq_true rfl) rfl d_M_firstFalse_47) (fun q6 => ?_)
        refine S.of1 (pc2 := 51) (fun Q => g_i2l d_M_firstFalse_50) ?_
        refine S.of1 (pc2 := 52) (fun Q => g_lcmp d_M_firstFalse_51) ?_
        refine S.br (c := (lg_cmp (σ.2 78 (((60 : Int32) * (grem v1 (10 : Int32))) + v2).toNatClampNeg) (q6.1.toInt64)) = 0) (t := 57) (e := 55) (fun Q kt kf => g_if_eq d_M_firstFalse_52 rfl kt kf) (fun h7 => ?_) (fun h7 => ?_)
        · refine S.of1 (pc2 := 60) (L2 := [some (.ref 59), some (.int v1), some (.int (v2 + (1 : Int32)))]) (fun Q => g_iinc d_M_firstFalse_57 rfl (congrArg (fun z => v2 + z) (by decide)) (Nat.le_of_ble_eq_true rfl) rfl) ?_
          refine S.of1 (pc2 := 2) (fun Q => g_goto d_M_firstFalse_60 rfl) ?_
          exact S.wk (L2 := [some (.ref 59), some (.int v1), some (.int (v2 + (1 : Int32)))]) (And.intro rfl (And.intro rfl (And.intro rfl trivial))) (ih v1 (v2 + (1 : Int32)) q6.2)
        · refine S.of1 (pc2 := 56) (fun Q => g_iload_n d_M_firstFalse_55 rfl) ?_
          exact S.ret (fun Q hq => g_iret rfl d_M_firstFalse_56 hq)
def f_M_firstFalse (v1 : Int32) (σ : gS) : Option (Int32 × gS) :=
  f_M_firstFalse_L2 gfu v1 (0 : Int32) σ
theorem c_M_firstFalse (d : Nat) (hd : 60 ≤ d) (v1 : Int32) (σ : gS) : C wI d m_M_firstFalse [.ref 59, .int v1] σ (f_M_firstFalse v1 σ) := by
  unfold f_M_firstFalse
  refine C.of (by decide +kernel) (Nat.le_of_ble_eq_true rfl) (L := [some (.ref 59), some (.int v1), none]) rfl ?_
  refine S.of1 (pc2 := 1) (fun Q => g_iconst (v := (0 : Int32)) d_M_firstFalse_0 (by decide)) ?_
  refine S.of1 (pc2 := 2) (L2 := [some (.ref 59), some (.int v1), some (.int (0 : Int32))]) (fun Q => g_istore_n d_M_firstFalse_1 (Nat.le_of_ble_eq_true rfl) rfl) ?_
  exact S.wk (L2 := [some (.ref 59), some (.int v1), some (.int (0 : Int32))]) (And.intro rfl (And.intro rfl (And.intro rfl trivial))) (s_M_firstFalse_L2 d hd gfu v1 (0 : Int32) σ)
def f_M_judge (v1 : Int32) (σ : gS) : Option (Int32 × gS) :=
  (f_M_rowsAre v1 σ).bind fun q1 => if 0 ≤ q1 then (f_M_firstFalse v1 σ).bind fun q3 => some (q3.1, q3.2) else (f_M_rowsAre v1 σ).bind fun q4 => some (q4, σ)
theorem c_M_judge (d : Nat) (hd : 61 ≤ d) (v1 : Int32) (σ : gS) : C wI d m_M_judge [.ref 59, .int v1] σ (f_M_judge v1 σ) := by
  unfold f_M_judge
  refine C.of (by decide +kernel) (Nat.le_of_ble_eq_true rfl) (L := [some (.ref 59), some (.int v1)]) rfl ?_
  refine S.of1 (pc2 := 1) (fun Q => g_aload_n d_M_judge_0 rfl) ?_
  refine S.of1 (pc2 := 2) (fun Q => g_iload_n d_M_judge_1 rfl) ?_
  refine S.call_rI (pc3 := 5) rfl (c_M_rowsAre (d - 1) (by omega) v1 σ) (fun Q => g_callV (M2 := m_M_rowsAre) (vs := [.int v1]) (st := []) lv_RX11_264 gk_59 rfl rfl (Nat.le_of_ble_eq_true rfl) (by omega) (Nat.le_of_ble_eq_true rfl) rfl d_M_judge_2) (fun q1 => ?_)
  refine S.br (c := 0 ≤ q1) (t := 16) (e := 8) (fun Q kt kf => g_if_ge d_M_judge_5 rfl kt kf) (fun h2 => ?_) (fun h2 => ?_)
  · refine S.of1 (pc2 := 17) (fun Q => g_aload_n d_M_judge_16 rfl) ?_
    refine S.of1 (pc2 := 18) (fun Q => g_iload_n d_M_judge_17 rfl) ?_
    refine S.call_wI (pc3 := 21) rfl (c_M_firstFalse (d - 1) (by omega) v1 σ) (fun Q => g_callV (M2 := m_M_firstFalse) (vs := [.int v1]) (st := []) lv_RX11_267 gk_59 rfl rfl (Nat.le_of_ble_eq_true rfl) (by omega) (Nat.le_of_ble_eq_true rfl) rfl d_M_judge_18) (fun q3 => ?_)
    exact S.ret (fun Q hq => g_iret rfl d_M_judge_21 hq)
  · refine S.of1 (pc2 := 9) (fun Q => g_aload_n d_M_judge_8 rfl) ?_
    refine S.of1 (pc2 := 10) (fun Q => g_iload_n d_M_judge_9 rfl) ?_
    refine S.call_rI (pc3 := 13) rfl (c_M_rowsAre (d - 1) (by omega) v1 σ) (fun Q => g_callV (M2 := m_M_rowsAre) (vs := [.int v1]) (st := []) lv_RX11_264 gk_59 rfl rfl (Nat.le_of_ble_eq_true rfl) (by omega) (Nat.le_of_ble_eq_true rfl) rfl d_M_judge_10) (fun q4 => ?_)
    refine S.of1 (pc2 := 21) (fun Q => g_goto d_M_judge_13 rfl) ?_
    exact S.ret (fun Q hq => g_iret rfl d_M_judge_21 hq)
def f_M_fits_j131 (k83 : Int32 → Int32 → Int32 → Int32 → Int32 → Int32 → Int32 → Int32 → gS → Option (Int32 × gS)) (v1 : Int32) (v3 : Int32) (v4 : Int32) (v5 : Int32) (v6 : Int32) (v8 : Int32) (v9 : Int32) (s0 : Int32) (σ : gS) : Option (Int32 × gS) :=
  glt (v8 ||| ((1 : Int32) <<< (v9 &&& 31))) fun x23 => k83 v1 v3 v4 v5 (v6 + (1 : Int32)) s0 x23 (v9 + (1 : Int32)) σ
theorem s_M_fits_j131 (d : Nat) (hd : 61 ≤ d) (k83 : Int32 → Int32 → Int32 → Int32 → Int32 → Int32 → Int32 → Int32 → gS → Option (Int32 × gS)) (hk83 : ∀ (v1 : Int32) (v3 : Int32) (v4 : Int32) (v5 : Int32) (v6 : Int32) (v7 : Int32) (v8 : Int32) (v9 : Int32) (τ : gS), S wI m_M_fits d 83 [some (.ref 59), some (.int v1), none, some (.int v3), some (.int v4), some (.int v5), some (.int v6), some (.int v7), some (.int v8), some (.int v9)] [] τ (k83 v1 v3 v4 v5 v6 v7 v8 v9 τ)) (v1 : Int32) (v3 : Int32) (v4 : Int32) (v5 : Int32) (v6 : Int32) (v8 : Int32) (v9 : Int32) (s0 : Int32) (σ : gS) : S wI m_M_fits d 131 [some (.ref 59), some (.int v1), none, some (.int v3), some (.int v4), some (.int v5), some (.int v6), none, some (.int v8), some (.int v9)] [.int s0] σ (f_M_fits_j131 k83 v1 v3 v4 v5 v6 v8 v9 s0 σ) := by
  unfold f_M_fits_j131
  refine S.of1 (pc2 := 133) (L2 := [some (.ref 59), some (.int v1), none, some (.int v3), some (.int v4), some (.int v5), some (.int v6), some (.int s0), some (.int v8), some (.int v9)]) (fun Q => g_istore d_M_fits_131 (Nat.le_of_ble_eq_true rfl) rfl) ?_
  refine S.of1 (pc2 := 135) (fun Q => g_iload d_M_fits_133 rfl) ?_
  refine S.of1 (pc2 := 136) (fun Q => g_iconst (v := (1 : Int32)) d_M_fits_135 (by decide)) ?_
  refine S.of1 (pc2 := 138) (fun Q => g_iload d_M_fits_136 rfl) ?_
  refine S.of1 (pc2 := 139) (fun Q => g_ishl d_M_fits_138) ?_
  refine S.of1 (pc2 := 140) (fun Q => g_ior d_M_fits_139) ?_
  refine S.of1 (pc2 := 142) (L2 := [some (.ref 59), some (.int v1), none, some (.int v3), some (.int v4), some (.int v5), some (.int v6), some (.int s0), some (.int (v8 ||| ((1 : Int32) <<< (v9 &&& 31)))), some (.int v9)]) (fun Q => g_istore d_M_fits_140 (Nat.le_of_ble_eq_true rfl) rfl) ?_
  refine S.glt (x := (v8 ||| ((1 : Int32) <<< (v9 &&& 31)))) (Lf := fun y => [some (.ref 59), some (.int v1), none, some (.int v3), some (.int v4), some (.int v5), some (.int v6), some (.int s0), some (.int y), some (.int v9)]) (fun x23 => ?_)
  refine S.of1 (pc2 := 145) (L2 := [some (.ref 59), some (.int v1), none, some (.int v3), some (.int v4), some (.int v5), some (.int (v6 + (1 : Int32))), some (.int s0), some (.int x23), some (.int v9)]) (fun Q => g_iinc d_M_fits_142 rfl (congrArg (fun z => v6 + z) (by decide)) (Nat.le_of_ble_eq_true rfl) rfl) ?_
  refine S.of1 (pc2 := 148) (L2 := [some (.ref 59), some (.int v1), none, some (.int v3), some (.int v4), some (.int v5), some (.int (v6 + (1 : Int32))), some (.int s0), some (.int x23), some (.int (v9 + (1 : Int32)))]) (fun Q => g_iinc d_M_fits_145 rfl (congrArg (fun z => v9 + z) (by decide)) (Nat.le_of_ble_eq_true rfl) rfl) ?_
  refine S.of1 (pc2 := 83) (fun Q => g_goto d_M_fits_148 rfl) ?_
  exact S.wk (L2 := [some (.ref 59), some (.int v1), none, some (.int v3), some (.int v4), some (.int v5), some (.int (v6 + (1 : Int32))), some (.int s0), some (.int x23), some (.int (v9 + (1 : Int32)))]) (And.intro rfl (And.intro rfl (And.intro rfl (And.intro rfl (And.intro rfl (And.intro rfl (And.intro rfl (And.intro rfl (And.intro rfl trivial))))))))) (hk83 v1 v3 v4 v5 (v6 + (1 : Int32)) s0 x23 (v9 + (1 : Int32)) σ)
def f_M_fits_j97 (k83 : Int32 → Int32 → Int32 → Int32 → Int32 → Int32 → Int32 → Int32 → gS → Option (Int32 × gS)) (v1 : Int32) (v3 : Int32) (v4 : Int32) (v5 : Int32) (v6 : Int32) (v7 : Int32) (v8 : Int32) (v9 : Int32) (s0 : Int32) (s1 : Int32) (σ : gS) : Option (Int32 × gS) :=
  if s0 < s1 then if gix v4 43 then gup (gpi σ 60 v4.toNatClampNeg v5) fun s15 => if v3 = 0 then some (v6, s15) else if v3 = (1 : Int32) then some (v7, s15) else some (v8, s15) else none else if gix v4 43 then gup (gpi σ 60 v4.toNatClampNeg v9) fun s19 => (f_M_firstFalse v1 s19).bind fun q20 => if q20.1 = (-2 : Int32) then if v6 = 0 then f_M_fits_j131 k83 v1 v3 v4 v5 v6 v8 v9 v9 q20.2 else f_M_fits_j131 k83 v1 v3 v4 v5 v6 v8 v9 v7 q20.2 else k83 v1 v3 v4 v5 v6 v7 v8 (v9 + (1 : Int32)) q20.2 else none
theorem s_M_fits_j97 (d : Nat) (hd : 61 ≤ d) (k83 : Int32 → Int32 → Int32 → Int32 → Int32 → Int32 → Int32 → Int32 → gS → Option (Int32 × gS)) (hk83 : ∀ (v1 : Int32) (v3 : Int32) (v4 : Int32) (v5 : Int32) (v6 : Int32) (v7 : Int32) (v8 : Int32) (v9 : Int32) (τ : gS), S wI m_M_fits d 83 [some (.ref 59), some (.int v1), none, some (.int v3), some (.int v4), some (.int v5), some (.int v6), some (.int v7), some (.int v8), some (.int v9)] [] τ (k83 v1 v3 v4 v5 v6 v7 v8 v9 τ)) (v1 : Int32) (v3 : Int32) (v4 : Int32) (v5 : Int32) (v6 : Int32) (v7 : Int32) (v8 : Int32) (v9 : Int32) (s0 : Int32) (s1 : Int32) (σ : gS) : S wI m_M_fits d 97 [some (.ref 59), some (.int v1), none, some (.int v3), some (.int v4), some (.int v5), some (.int v6), some (.int v7), some (.int v8), some (.int v9)] [.int s0, .int s1] σ (f_M_fits_j97 k83 v1 v3 v4 v5 v6 v7 v8 v9 s0 s1 σ) := by
  unfold f_M_fits_j97
  refine S.br (c := s0 < s1) (t := 151) (e := 100) (fun Q kt kf => g_icmp_gt d_M_fits_97 rfl kt kf) (fun h13 => ?_) (fun h13 => ?_)
  · refine S.of1 (pc2 := 152) (fun Q => g_aload_n d_M_fits_151 rfl) ?_
    refine S.of1 (pc2 := 155) (fun Q => g_getr fl_RX11_9 gc_59_0 d_M_fits_152) ?_
    refine S.of1 (pc2 := 157) (fun Q => g_iload d_M_fits_155 rfl) ?_
    refine S.of1 (pc2 := 159) (fun Q => g_iload d_M_fits_157 rfl) ?_
    refine S.chk (fun h14 => ?_)
    refine S.of1 (pc2 := 160) (fun Q => g_iast ga_60 (gix_in h14) d_M_fits_159) ?_
    refine S.gup (fun s15 => ?_)
    refine S.of1 (pc2 := 161) (fun Q => g_iload_n d_M_fits_160 rfl) ?_
    refine S.br (c := v3 = 0) (t := 164) (e := 169) (fun Q kt kf => g_if_ne d_M_fits_161 rfl kf kt) (fun h16 => ?_) (fun h16 => ?_)
    · refine S.of1 (pc2 := 166) (fun Q => g_iload d_M_fits_164 rfl) ?_
      refine S.of1 (pc2 := 181) (fun Q => g_goto d_M_fits_166 rfl) ?_
      exact S.ret (fun Q hq => g_iret rfl d_M_fits_181 hq)
    · refine S.of1 (pc2 := 170) (fun Q => g_iload_n d_M_fits_169 rfl) ?_
      refine S.of1 (pc2 := 171) (fun Q => g_iconst (v := (1 : Int32)) d_M_fits_170 (by decide)) ?_
      refine S.br (c := v3 = (1 : Int32)) (t := 174) (e := 179) (fun Q kt kf => g_icmp_ne d_M_fits_171 rfl kf kt) (fun h17 => ?_) (fun h17 => ?_)
      · refine S.of1 (pc2 := 176) (fun Q => g_iload d_M_fits_174 rfl) ?_
        refine S.of1 (pc2 := 181) (fun Q => g_goto d_M_fits_176 rfl) ?_
        exact S.ret (fun Q hq => g_iret rfl d_M_fits_181 hq)
      · refine S.of1 (pc2 := 181) (fun Q => g_iload d_M_fits_179 rfl) ?_
        exact S.ret (fun Q hq => g_iret rfl d_M_fits_181 hq)
  · refine S.of1 (pc2 := 101) (fun Q => g_aload_n d_M_fits_100 rfl) ?_
    refine S.of1 (pc2 := 104) (fun Q => g_getr fl_RX11_9 gc_59_0 d_M_fits_101) ?_
    refine S.of1 (pc2 := 106) (fun Q => g_iload d_M_fits_104 rfl) ?_
    refine S.of1 (pc2 := 108) (fun Q => g_iload d_M_fits_106 rfl) ?_
    refine S.chk (fun h18 => ?_)
    refine S.of1 (pc2 := 109) (fun Q => g_iast ga_60 (gix_in h18) d_M_fits_108) ?_
    refine S.gup (fun s19 => ?_)
    refine S.of1 (pc2 := 110) (fun Q => g_aload_n d_M_fits_109 rfl) ?_
    refine S.of1 (pc2 := 111) (fun Q => g_iload_n d_M_fits_110 rfl) ?_
    refine S.call_wI (pc3 := 114) rfl (c_M_firstFalse (d - 1) (by omega) v1 s19) (fun Q => g_callV (M2 := m_M_firstFalse) (vs := [.int v1]) (st := []) lv_RX11_267 gk_59 rfl rfl (Nat.le_of_ble_eq_true rfl) (by omega) (Nat.le_of_ble_eq_true rfl) rfl d_M_fits_111) (fun q20 => ?_)
    refine S.of1 (pc2 := 116) (fun Q => g_bipush (v := (-2 : Int32)) d_M_fits_114 (by decide)) ?_
    refine S.br (c := q20.1 = (-2 : Int32)) (t := 119) (e := 145) (fun Q kt kf => g_icmp_ne d_M_fits_116 rfl kf kt) (fun h21 => ?_) (fun h21 => ?_)
    · refine S.of1 (pc2 := 121) (fun Q => g_iload d_M_fits_119 rfl) ?_
      refine S.br (c := v6 = 0) (t := 124) (e := 129) (fun Q kt kf => g_if_ne d_M_fits_121 rfl kf kt) (fun h22 => ?_) (fun h22 => ?_)
      · refine S.of1 (pc2 := 126) (fun Q => g_iload d_M_fits_124 rfl) ?_
        refine S.of1 (pc2 := 131) (fun Q => g_goto d_M_fits_126 rfl) ?_
        exact S.wk (L2 := [some (.ref 59), some (.int v1), none, some (.int v3), some (.int v4), some (.int v5), some (.int v6), none, some (.int v8), some (.int v9)]) (And.intro rfl (And.intro rfl (And.intro rfl (And.intro rfl (And.intro rfl (And.intro rfl (And.intro rfl (And.intro rfl trivial)))))))) (s_M_fits_j131 d hd k83 hk83 v1 v3 v4 v5 v6 v8 v9 v9 q20.2)
      · refine S.of1 (pc2 := 131) (fun Q => g_iload d_M_fits_129 rfl) ?_
        exact S.wk (L2 := [some (.ref 59), some (.int v1), none, some (.int v3), some (.int v4), some (.int v5), some (.int v6), none, some (.int v8), some (.int v9)]) (And.intro rfl (And.intro rfl (And.intro rfl (And.intro rfl (And.intro rfl (And.intro rfl (And.intro rfl (And.intro rfl trivial)))))))) (s_M_fits_j131 d hd k83 hk83 v1 v3 v4 v5 v6 v8 v9 v7 q20.2)
    · refine S.of1 (pc2 := 148) (L2 := [some (.ref 59), some (.int v1), none, some (.int v3), some (.int v4), some (.int v5), some (.int v6), some (.int v7), some (.int v8), some (.int (v9 + (1 : Int32)))]) (fun Q => g_iinc d_M_fits_145 rfl (congrArg (fun z => v9 + z) (by decide)) (Nat.le_of_ble_eq_true rfl) rfl) ?_
      refine S.of1 (pc2 := 83) (fun Q => g_goto d_M_fits_148 rfl) ?_
      exact S.wk (L2 := [some (.ref 59), some (.int v1), none, some (.int v3), some (.int v4), some (.int v5), some (.int v6), some (.int v7), some (.int v8), some (.int (v9 + (1 : Int32)))]) (And.intro rfl (And.intro rfl (And.intro rfl (And.intro rfl (And.intro rfl (And.intro rfl (And.intro rfl (And.intro rfl (And.intro rfl trivial))))))))) (hk83 v1 v3 v4 v5 v6 v7 v8 (v9 + (1 : Int32)) q20.2)
def f_M_fits_L83 : Nat → Int32 → Int32 → Int32 → Int32 → Int32 → Int32 → Int32 → Int32 → gS → Option (Int32 × gS)
  | 0, _, _, _, _, _, _, _, _, _ => none
  | n + 1, v1, v3, v4, v5, v6, v7, v8, v9, σ =>
  if v3 = (2 : Int32) then f_M_fits_j97 (fun v1 v3 v4 v5 v6 v7 v8 v9 σ => f_M_fits_L83 n v1 v3 v4 v5 v6 v7 v8 v9 σ) v1 v3 v4 v5 v6 v7 v8 v9 (7 : Int32) v9 σ else f_M_fits_j97 (fun v1 v3 v4 v5 v6 v7 v8 v9 σ => f_M_fits_L83 n v1 v3 v4 v5 v6 v7 v8 v9 σ) v1 v3 v4 v5 v6 v7 v8 v9 (12 : Int32) v9 σ
theorem s_M_fits_L83 (d : Nat) (hd : 61 ≤ d) : ∀ (n : Nat) (v1 : Int32) (v3 : Int32) (v4 : Int32) (v5 : Int32) (v6 : Int32) (v7 : Int32) (v8 : Int32) (v9 : Int32) (σ : gS), S wI m_M_fits d 83 [some (.ref 59), some (.int v1), none, some (.int v3), some (.int v4), some (.int v5), some (.int v6), some (.int v7), some (.int v8), some (.int v9)] [] σ (f_M_fits_L83 n v1 v3 v4 v5 v6 v7 v8 v9 σ) := by
  intro n
  induction n with
  | zero =>
    intros
    unfold f_M_fits_L83
    exact S.no
  | succ n ih =>
    intro v1 v3 v4 v5 v6 v7 v8 v9 σ
    unfold f_M_fits_L83
    refine S.of1 (pc2 := 85) (fun Q => g_iload d_M_fits_83 rfl) ?_
    refine S.of1 (pc2 := 86) (fun Q => g_iload_n d_M_fits_85 rfl) ?_
    refine S.of1 (pc2 := 87) (fun Q => g_iconst (v := (2 : Int32)) d_M_fits_86 (by decide)) ?_
    refine S.br (c := v3 = (2 : Int32)) (t := 90) (e := 95) (fun Q kt kf => g_icmp_ne d_M_fits_87 rfl kf kt) (fun h12 => ?_) (fun h12 => ?_)
    · refine S.of1 (pc2 := 92) (fun Q => g_bipush (v := (7 : Int32)) d_M_fits_90 (by decide)) ?_
      refine S.of1 (pc2 := 97) (fun Q => g_goto d_M_fits_92 rfl) ?_
      exact S.wk (L2 := [some (.ref 59), some (.int v1), none, some (.int v3), some (.int v4), some (.int v5), some (.int v6), some (.int v7), some (.int v8), some (.int v9)]) (And.intro rfl (And.intro rfl (And.intro rfl (And.intro rfl (And.intro rfl (And.intro rfl (And.intro rfl (And.intro rfl (And.intro rfl trivial))))))))) (s_M_fits_j97 d hd (fun v1 v3 v4 v5 v6 v7 v8 v9 σ => f_M_fits_L83 n v1 v3 v4 v5 v6 v7 v8 v9 σ) (fun v1 v3 v4 v5 v6 v7 v8 v9 τ => ih v1 v3 v4 v5 v6 v7 v8 v9 τ) v1 v3 v4 v5 v6 v7 v8 v9 (7 : Int32) v9 σ)
    · refine S.of1 (pc2 := 97) (fun Q => g_bipush (v := (12 : Int32)) d_M_fits_95 (by decide)) ?_
      exact S.wk (L2 := [some (.ref 59), some (.int v1), none, some (.int v3), some (.int v4), some (.int v5), some (.int v6), some (.int v7), some (.int v8), some (.int v9)]) (And.intro rfl (And.intro rfl (And.intro rfl (And.intro rfl (And.intro rfl (And.intro rfl (And.intro rfl (And.intro rfl (And.intro rfl trivial))))))))) (s_M_fits_j97 d hd (fun v1 v3 v4 v5 v6 v7 v8 v9 σ => f_M_fits_L83 n v1 v3 v4 v5 v6 v7 v8 v9 σ) (fun v1 v3 v4 v5 v6 v7 v8 v9 τ => ih v1 v3 v4 v5 v6 v7 v8 v9 τ) v1 v3 v4 v5 v6 v7 v8 v9 (12 : Int32) v9 σ)
def f_M_fits_j59 (v1 : Int32) (v3 : Int32) (s0 : Int32) (σ : gS) : Option (Int32 × gS) :=
  if gix s0 43 then glt (σ.1 60 s0.toNatClampNeg) fun x11 => f_M_fits_L83 gfu v1 v3 s0 x11 (0 : Int32) (-2 : Int32) (0 : Int32) (0 : Int32) σ else none
theorem s_M_fits_j59 (d : Nat) (hd : 61 ≤ d) (v1 : Int32) (v3 : Int32) (s0 : Int32) (σ : gS) : S wI m_M_fits d 59 [some (.ref 59), some (.int v1), none, some (.int v3), none, none, none, none, none, none] [.int s0] σ (f_M_fits_j59 v1 v3 s0 σ) := by
  unfold f_M_fits_j59
  refine S.of1 (pc2 := 61) (L2 := [some (.ref 59), some (.int v1), none, some (.int v3), some (.int s0), none, none, none, none, none]) (fun Q => g_istore d_M_fits_59 (Nat.le_of_ble_eq_true rfl) rfl) ?_
  refine S.of1 (pc2 := 62) (fun Q => g_aload_n d_M_fits_61 rfl) ?_
  refine S.of1 (pc2 := 65) (fun Q => g_getr fl_RX11_9 gc_59_0 d_M_fits_62) ?_
  refine S.of1 (pc2 := 67) (fun Q => g_iload d_M_fits_65 rfl) ?_
  refine S.chk (fun h10 => ?_)
  refine S.of1 (pc2 := 68) (fun Q => g_iald ga_60 (gix_in h10) d_M_fits_67) ?_
  refine S.of1 (pc2 := 70) (L2 := [some (.ref 59), some (.int v1), none, some (.int v3), some (.int s0), some (.int (σ.1 60 s0.toNatClampNeg)), none, none, none, none]) (fun Q => g_istore d_M_fits_68 (Nat.le_of_ble_eq_true rfl) rfl) ?_
  refine S.glt (x := (σ.1 60 s0.toNatClampNeg)) (Lf := fun y => [some (.ref 59), some (.int v1), none, some (.int v3), some (.int s0), some (.int y), none, none, none, none]) (fun x11 => ?_)
  refine S.of1 (pc2 := 71) (fun Q => g_iconst (v := (0 : Int32)) d_M_fits_70 (by decide)) ?_
  refine S.of1 (pc2 := 73) (L2 := [some (.ref 59), some (.int v1), none, some (.int v3), some (.int s0), some (.int x11), some (.int (0 : Int32)), none, none, none]) (fun Q => g_istore d_M_fits_71 (Nat.le_of_ble_eq_true rfl) rfl) ?_
  refine S.of1 (pc2 := 75) (fun Q => g_bipush (v := (-2 : Int32)) d_M_fits_73 (by decide)) ?_
  refine S.of1 (pc2 := 77) (L2 := [some (.ref 59), some (.int v1), none, some (.int v3), some (.int s0), some (.int x11), some (.int (0 : Int32)), some (.int (-2 : Int32)), none, none]) (fun Q => g_istore d_M_fits_75 (Nat.le_of_ble_eq_true rfl) rfl) ?_
  refine S.of1 (pc2 := 78) (fun Q => g_iconst (v := (0 : Int32)) d_M_fits_77 (by decide)) ?_
  refine S.of1 (pc2 := 80) (L2 := [some (.ref 59), some (.int v1), none, some (.int v3), some (.int s0), some (.int x11), some (.int (0 : Int32)), some (.int (-2 : Int32)), some (.int (0 : Int32)), none]) (fun Q => g_istore d_M_fits_78 (Nat.le_of_ble_eq_true rfl) rfl) ?_
  refine S.of1 (pc2 := 81) (fun Q => g_iconst (v := (0 : Int32)) d_M_fits_80 (by decide)) ?_
  refine S.of1 (pc2 := 83) (L2 := [some (.ref 59), some (.int v1), none, some (.int v3), some (.int s0), some (.int x11), some (.int (0 : Int32)), some (.int (-2 : Int32)), some (.int (0 : Int32)), some (.int (0 : Int32))]) (fun Q => g_istore d_M_fits_81 (Nat.le_of_ble_eq_true rfl) rfl) ?_
  exact S.wk (L2 := [some (.ref 59), some (.int v1), none, some (.int v3), some (.int s0), some (.int x11), some (.int (0 : Int32)), some (.int (-2 : Int32)), some (.int (0 : Int32)), some (.int (0 : Int32))]) (And.intro rfl (And.intro rfl (And.intro rfl (And.intro rfl (And.intro rfl (And.intro rfl (And.intro rfl (And.intro rfl (And.intro rfl trivial))))))))) (s_M_fits_L83 d hd gfu v1 v3 s0 x11 (0 : Int32) (-2 : Int32) (0 : Int32) (0 : Int32) σ)
def f_M_fits (v1 : Int32) (v2 : Int32) (v3 : Int32) (σ : gS) : Option (Int32 × gS) :=
  (f_M_rowsAre v1 σ).bind fun q1 => if q1 = (-1 : Int32) then some ((-1 : Int32), σ) else (f_M_isOne (v2.toInt64) σ).bind fun q3 => if q3 = 0 then some ((-1 : Int32), σ) else (f_M_within (v3.toInt64) (0 : Int64) (2 : Int64)).bind fun q5 => if q5 = 0 then some ((-1 : Int32), σ) else (f_M_rowsAre v1 σ).bind fun q7 => if 0 ≤ q7 then if v3 = (2 : Int32) then f_M_fits_j59 v1 v3 v2 σ else f_M_fits_j59 v1 v3 ((10 : Int32) + v2) σ else (f_M_rowsAre v1 σ).bind fun q24 => some (q24, σ)
theorem c_M_fits (d : Nat) (hd : 61 ≤ d) (v1 : Int32) (v2 : Int32) (v3 : Int32) (σ : gS) : C wI d m_M_fits [.ref 59, .int v1, .int v2, .int v3] σ (f_M_fits v1 v2 v3 σ) := by
  unfold f_M_fits
  refine C.of (by decide +kernel) (Nat.le_of_ble_eq_true rfl) (L := [some (.ref 59), some (.int v1), some (.int v2), some (.int v3), none, none, none, none, none, none]) rfl ?_
  refine S.of1 (pc2 := 1) (fun Q => g_aload_n d_M_fits_0 rfl) ?_
  refine S.of1 (pc2 := 2) (fun Q => g_iload_n d_M_fits_1 rfl) ?_
  refine S.call_rI (pc3 := 5) rfl (c_M_rowsAre (d - 1) (by omega) v1 σ) (fun Q => g_callV (M2 := m_M_rowsAre) (vs := [.int v1]) (st := []) lv_RX11_264 gk_59 rfl rfl (Nat.le_of_ble_eq_true rfl) (by omega) (Nat.le_of_ble_eq_true rfl) rfl d_M_fits_2) (fun q1 => ?_)
  refine S.of1 (pc2 := 6) (fun Q => g_iconst (v := (-1 : Int32)) d_M_fits_5 (by decide)) ?_
  refine S.br (c := q1 = (-1 : Int32)) (t := 30) (e := 9) (fun Q kt kf => g_icmp_eq d_M_fits_6 rfl kt kf) (fun h2 => ?_) (fun h2 => ?_)
  · refine S.of1 (pc2 := 31) (fun Q => g_iconst (v := (-1 : Int32)) d_M_fits_30 (by decide)) ?_
    exact S.ret (fun Q hq => g_iret rfl d_M_fits_31 hq)
  · refine S.of1 (pc2 := 10) (fun Q => g_aload_n d_M_fits_9 rfl) ?_
    refine S.of1 (pc2 := 11) (fun Q => g_iload_n d_M_fits_10 rfl) ?_
    refine S.of1 (pc2 := 12) (fun Q => g_i2l d_M_fits_11) ?_
    refine S.call_rI (pc3 := 15) rfl (c_M_isOne (d - 1) (by omega) (v2.toInt64) σ) (fun Q => g_callV (M2 := m_M_isOne) (vs := [.long (v2.toInt64)]) (st := []) lv_RX11_111 gk_59 rfl rfl (Nat.le_of_ble_eq_true rfl) (by omega) (Nat.le_of_ble_eq_true rfl) rfl d_M_fits_12) (fun q3 => ?_)
    refine S.br (c := q3 = 0) (t := 30) (e := 18) (fun Q kt kf => g_if_eq d_M_fits_15 rfl kt kf) (fun h4 => ?_) (fun h4 => ?_)
    · refine S.of1 (pc2 := 31) (fun Q => g_iconst (v := (-1 : Int32)) d_M_fits_30 (by decide)) ?_
      exact S.ret (fun Q hq => g_iret rfl d_M_fits_31 hq)
    · refine S.of1 (pc2 := 19) (fun Q => g_iload_n d_M_fits_18 rfl) ?_
      refine S.of1 (pc2 := 20) (fun Q => g_i2l d_M_fits_19) ?_
      refine S.of1 (pc2 := 21) (fun Q => g_lconst (v := (0 : Int64)) d_M_fits_20 (by decide)) ?_
      refine S.of1 (pc2 := 24) (fun Q => g_ldc2 (v := (2 : Int64)) d_M_fits_21 w_1311) ?_
      refine S.call_rI (pc3 := 27) rfl (c_M_within (d - 1) (by omega) (v3.toInt64) (0 : Int64) (2 : Int64) σ) (fun Q => g_callS (M2 := m_M_within) (vs := [.long (v3.toInt64), .long (0 : Int64), .long (2 : Int64)]) (st := []) ls_RX11_84 rfl (Nat.le_of_ble_eq_true rfl) (by omega) (Nat.le_of_ble_eq_true rfl) rfl d_M_fits_24) (fun q5 => ?_)
      refine S.br (c := q5 = 0) (t := 30) (e := 32) (fun Q kt kf => g_if_ne d_M_fits_27 rfl kf kt) (fun h6 => ?_) (fun h6 => ?_)
      · refine S.of1 (pc2 := 31) (fun Q => g_iconst (v := (-1 : Int32)) d_M_fits_30 (by decide)) ?_
        exact S.ret (fun Q hq => g_iret rfl d_M_fits_31 hq)
      · refine S.of1 (pc2 := 33) (fun Q => g_aload_n d_M_fits_32 rfl) ?_
        refine S.of1 (pc2 := 34) (fun Q => g_iload_n d_M_fits_33 rfl) ?_
        refine S.call_rI (pc3 := 37) rfl (c_M_rowsAre (d - 1) (by omega) v1 σ) (fun Q => g_callV (M2 := m_M_rowsAre) (vs := [.int v1]) (st := []) lv_RX11_264 gk_59 rfl rfl (Nat.le_of_ble_eq_true rfl) (by omega) (Nat.le_of_ble_eq_true rfl) rfl d_M_fits_34) (fun q7 => ?_)
        refine S.br (c := 0 ≤ q7) (t := 46) (e := 40) (fun Q kt kf => g_if_ge d_M_fits_37 rfl kt kf) (fun h8 => ?_) (fun h8 => ?_)
        · refine S.of1 (pc2 := 47) (fun Q => g_iload_n d_M_fits_46 rfl) ?_
          refine S.of1 (pc2 := 48) (fun Q => g_iconst (v := (2 : Int32)) d_M_fits_47 (by decide)) ?_
          refine S.br (c := v3 = (2 : Int32)) (t := 51) (e := 55) (fun Q kt kf => g_icmp_ne d_M_fits_48 rfl kf kt) (fun h9 => ?_) (fun h9 => ?_)
          · refine S.of1 (pc2 := 52) (fun Q => g_iload_n d_M_fits_51 rfl) ?_
            refine S.of1 (pc2 := 59) (fun Q => g_goto d_M_fits_52 rfl) ?_
            exact S.wk (L2 := [some (.ref 59), some (.int v1), none, some (.int v3), none, none, none, none, none, none]) (And.intro rfl (And.intro rfl (And.intro rfl trivial))) (s_M_fits_j59 d hd v1 v3 v2 σ)
          · refine S.of1 (pc2 := 57) (fun Q => g_bipush (v := (10 : Int32)) d_M_fits_55 (by decide)) ?_
            refine S.of1 (pc2 := 58) (fun Q => g_iload_n d_M_fits_57 rfl) ?_
            refine S.of1 (pc2 := 59) (fun Q => g_iadd d_M_fits_58) ?_
            exact S.wk (L2 := [some (.ref 59), some (.int v1), none, some (.int v3), none, none, none, none, none, none]) (And.intro rfl (And.intro rfl (And.intro rfl trivial))) (s_M_fits_j59 d hd v1 v3 ((10 : Int32) + v2) σ)
        · refine S.of1 (pc2 := 41) (fun Q => g_aload_n d_M_fits_40 rfl) ?_
          refine S.of1 (pc2 := 42) (fun Q => g_iload_n d_M_fits_41 rfl) ?_
          refine S.call_rI (pc3 := 45) rfl (c_M_rowsAre (d - 1) (by omega) v1 σ) (fun Q => g_callV (M2 := m_M_rowsAre) (vs := [.int v1]) (st := []) lv_RX11_264 gk_59 rfl rfl (Nat.le_of_ble_eq_true rfl) (by omega) (Nat.le_of_ble_eq_true rfl) rfl d_M_fits_42) (fun q24 => ?_)
          exact S.ret (fun Q hq => g_iret rfl d_M_fits_45 hq)
