def f_M_placeOf (v1 : Int32) (v2 : Int32) (σ : gS) : Option Int32 :=
  (f_M_within (v2.toInt64) (0 : Int64) (3 : Int64)).bind fun q1 => if q1 = 0 then if v1 = 0 then (f_M_within (v2.toInt64) (4 : Int64) (6 : Int64)).bind fun q4 => if q4 = 0 then some (-1 : Int32) else some (((40 : Int32) + v2) - (4 : Int32)) else some (-1 : Int32) else (f_M_isOne (v1.toInt64) σ).bind fun q6 => if q6 = 0 then some (-1 : Int32) else some (((10 : Int32) * v2) + v1)
theorem c_M_placeOf (d : Nat) (hd : 3 ≤ d) (v1 : Int32) (v2 : Int32) (σ : gS) : C (rI σ) d m_M_placeOf [.ref 59, .int v1, .int v2] σ (f_M_placeOf v1 v2 σ) := by
  unfold f_M_placeOf
  refine C.of (by decide +kernel) (Nat.le_of_ble_eq_true rfl) (L := [some (.ref 59), some (.int v1), some (.int v2)]) rfl ?_
  refine S.of1 (pc2 := 1) (fun Q => g_iload_n d_M_placeOf_0 rfl) ?_
  refine S.of1 (pc2 := 2) (fun Q => g_i2l d_M_placeOf_1) ?_
  refine S.of1 (pc2 := 3) (fun Q => g_lconst (v := (0 : Int64)) d_M_placeOf_2 (by decide)) ?_
  refine S.of1 (pc2 := 6) (fun Q => g_ldc2 (v := (3 : Int64)) d_M_placeOf_3 w_1298) ?_
  refine S.call_rI (pc3 := 9) rfl (c_M_within (d - 1) (by omega) (v2.toInt64) (0 : Int64) (3 : Int64) σ) (fun Q => g_callS (M2 := m_M_within) (vs := [.long (v2.toInt64), .long (0 : Int64), .long (3 : Int64)]) (st := []) ls_RX11_84 rfl (Nat.le_of_ble_eq_true rfl) (by omega) (Nat.le_of_ble_eq_true rfl) rfl d_M_placeOf_6) (fun q1 => ?_)
  refine S.br (c := q1 = 0) (t := 32) (e := 12) (fun Q kt kf => g_if_eq d_M_placeOf_9 rfl kt kf) (fun h2 => ?_) (fun h2 => ?_)
  · refine S.of1 (pc2 := 33) (fun Q => g_iload_n d_M_placeOf_32 rfl) ?_
    refine S.br (c := v1 = 0) (t := 36) (e := 59) (fun Q kt kf => g_if_ne d_M_placeOf_33 rfl kf kt) (fun h3 => ?_) (fun h3 => ?_)
    · refine S.of1 (pc2 := 37) (fun Q => g_iload_n d_M_placeOf_36 rfl) ?_
      refine S.of1 (pc2 := 38) (fun Q => g_i2l d_M_placeOf_37) ?_
      refine S.of1 (pc2 := 41) (fun Q => g_ldc2 (v := (4 : Int64)) d_M_placeOf_38 w_1303) ?_
      refine S.of1 (pc2 := 44) (fun Q => g_ldc2 (v := (6 : Int64)) d_M_placeOf_41 w_1304) ?_
      refine S.call_rI (pc3 := 47) rfl (c_M_within (d - 1) (by omega) (v2.toInt64) (4 : Int64) (6 : Int64) σ) (fun Q => g_callS (M2 := m_M_within) (vs := [.long (v2.toInt64), .long (4 : Int64), .long (6 : Int64)]) (st := []) ls_RX11_84 rfl (Nat.le_of_ble_eq_true rfl) (by omega) (Nat.le_of_ble_eq_true rfl) rfl d_M_placeOf_44) (fun q4 => ?_)
      refine S.br (c := q4 = 0) (t := 59) (e := 50) (fun Q kt kf => g_if_eq d_M_placeOf_47 rfl kt kf) (fun h5 => ?_) (fun h5 => ?_)
      · refine S.of1 (pc2 := 60) (fun Q => g_iconst (v := (-1 : Int32)) d_M_placeOf_59 (by decide)) ?_
        exact S.ret (fun Q hq => g_iret rfl d_M_placeOf_60 hq)
      · refine S.of1 (pc2 := 52) (fun Q => g_bipush (v := (40 : Int32)) d_M_placeOf_50 (by decide)) ?_
        refine S.of1 (pc2 := 53) (fun Q => g_iload_n d_M_placeOf_52 rfl) ?_
        refine S.of1 (pc2 := 54) (fun Q => g_iadd d_M_placeOf_53) ?_
        refine S.of1 (pc2 := 55) (fun Q => g_iconst (v := (4 : Int32)) d_M_placeOf_54 (by decide)) ?_
        refine S.of1 (pc2 := 56) (fun Q => g_isub d_M_placeOf_55) ?_
        refine S.of1 (pc2 := 60) (fun Q => g_goto d_M_placeOf_56 rfl) ?_
        exact S.ret (fun Q hq => g_iret rfl d_M_placeOf_60 hq)
    · refine S.of1 (pc2 := 60) (fun Q => g_iconst (v := (-1 : Int32)) d_M_placeOf_59 (by decide)) ?_
      exact S.ret (fun Q hq => g_iret rfl d_M_placeOf_60 hq)
  · refine S.of1 (pc2 := 13) (fun Q => g_aload_n d_M_placeOf_12 rfl) ?_
    refine S.of1 (pc2 := 14) (fun Q => g_iload_n d_M_placeOf_13 rfl) ?_
    refine S.of1 (pc2 := 15) (fun Q => g_i2l d_M_placeOf_14) ?_
    refine S.call_rI (pc3 := 18) rfl (c_M_isOne (d - 1) (by omega) (v1.toInt64) σ) (fun Q => g_callV (M2 := m_M_isOne) (vs := [.long (v1.toInt64)]) (st := []) lv_RX11_111 gk_59 rfl rfl (Nat.le_of_ble_eq_true rfl) (by omega) (Nat.le_of_ble_eq_true rfl) rfl d_M_placeOf_15) (fun q6 => ?_)
    refine S.br (c := q6 = 0) (t := 30) (e := 21) (fun Q kt kf => g_if_eq d_M_placeOf_18 rfl kt kf) (fun h7 => ?_) (fun h7 => ?_)
    · refine S.of1 (pc2 := 31) (fun Q => g_iconst (v := (-1 : Int32)) d_M_placeOf_30 (by decide)) ?_
      exact S.ret (fun Q hq => g_iret rfl d_M_placeOf_31 hq)
    · refine S.of1 (pc2 := 23) (fun Q => g_bipush (v := (10 : Int32)) d_M_placeOf_21 (by decide)) ?_
      refine S.of1 (pc2 := 24) (fun Q => g_iload_n d_M_placeOf_23 rfl) ?_
      refine S.of1 (pc2 := 25) (fun Q => g_imul d_M_placeOf_24) ?_
      refine S.of1 (pc2 := 26) (fun Q => g_iload_n d_M_placeOf_25 rfl) ?_
      refine S.of1 (pc2 := 27) (fun Q => g_iadd d_M_placeOf_26) ?_
      refine S.of1 (pc2 := 31) (fun Q => g_goto d_M_placeOf_27 rfl) ?_
      exact S.ret (fun Q hq => g_iret rfl d_M_placeOf_31 hq)
def f_M_mayBecome_j95 (v1 : Int32) : Option Int32 :=
  (f_M_within (v1.toInt64) (0 : Int64) (99 : Int64)).bind fun q8 => if gzb q8 then some q8 else none
theorem s_M_mayBecome_j95 (d : Nat) (hd : 3 ≤ d) (σ : gS) (v1 : Int32) : S (rI σ) m_M_mayBecome d 95 [none, some (.int v1)] [] σ (f_M_mayBecome_j95 v1) := by
  unfold f_M_mayBecome_j95
  refine S.of1 (pc2 := 96) (fun Q => g_iload_n d_M_mayBecome_95 rfl) ?_
  refine S.of1 (pc2 := 97) (fun Q => g_i2l d_M_mayBecome_96) ?_
  refine S.of1 (pc2 := 98) (fun Q => g_lconst (v := (0 : Int64)) d_M_mayBecome_97 (by decide)) ?_
  refine S.of1 (pc2 := 101) (fun Q => g_ldc2 (v := (99 : Int64)) d_M_mayBecome_98 w_1276) ?_
  refine S.call_rI (pc3 := 104) rfl (c_M_within (d - 1) (by omega) (v1.toInt64) (0 : Int64) (99 : Int64) σ) (fun Q => g_callS (M2 := m_M_within) (vs := [.long (v1.toInt64), .long (0 : Int64), .long (99 : Int64)]) (st := []) ls_RX11_84 rfl (Nat.le_of_ble_eq_true rfl) (by omega) (Nat.le_of_ble_eq_true rfl) rfl d_M_mayBecome_101) (fun q8 => ?_)
  refine S.chk (fun h9 => ?_)
  exact S.ret (fun Q hq => g_zret rfl (gzb_n h9) d_M_mayBecome_104 hq)
def f_M_mayBecome_j73 : Option Int32 :=
  some (1 : Int32)
theorem s_M_mayBecome_j73 (d : Nat) (hd : 3 ≤ d) (σ : gS) : S (rI σ) m_M_mayBecome d 73 [none, none] [] σ (f_M_mayBecome_j73) := by
  unfold f_M_mayBecome_j73
  refine S.of1 (pc2 := 74) (fun Q => g_iconst (v := (1 : Int32)) d_M_mayBecome_73 (by decide)) ?_
  refine S.of1 (pc2 := 78) (fun Q => g_goto d_M_mayBecome_74 rfl) ?_
  exact S.ret (fun Q hq => g_zret rfl rfl d_M_mayBecome_78 hq)
def f_M_mayBecome (v0 : Int32) (v1 : Int32) : Option Int32 :=
  if v0 = (0 : Int32) then (f_M_within (v1.toInt64) (0 : Int64) (7 : Int64)).bind fun q2 => if gzb q2 then some q2 else none else if v0 = (1 : Int32) then (f_M_within (v1.toInt64) (0 : Int64) (12 : Int64)).bind fun q5 => if gzb q5 then some q5 else none else if v0 = (2 : Int32) then f_M_mayBecome_j95 v1 else if v0 = (3 : Int32) then if v1 = (-1 : Int32) then f_M_mayBecome_j73 else (f_M_isWeather (v1.toInt64)).bind fun q12 => if q12 = 0 then some (0 : Int32) else f_M_mayBecome_j73 else if v0 = (4 : Int32) then (f_M_isWeather (v1.toInt64)).bind fun q15 => if gzb q15 then some q15 else none else if v0 = (5 : Int32) then (f_M_within (v1.toInt64) (0 : Int64) (2 : Int64)).bind fun q18 => if gzb q18 then some q18 else none else f_M_mayBecome_j95 v1
theorem c_M_mayBecome (d : Nat) (hd : 3 ≤ d) (v0 : Int32) (v1 : Int32) (σ : gS) : C (rI σ) d m_M_mayBecome [.int v0, .int v1] σ (f_M_mayBecome v0 v1) := by
  unfold f_M_mayBecome
  refine C.of (by decide +kernel) (Nat.le_of_ble_eq_true rfl) (L := [some (.int v0), some (.int v1)]) rfl ?_
  refine S.of1 (pc2 := 1) (fun Q => g_iload_n d_M_mayBecome_0 rfl) ?_
  refine S.cs (c := v0 = (0 : Int32)) (fun h1 => ?_) (fun h1 => ?_)
  · refine S.of1 (pc2 := 40) (fun Q => g_tableIn (off := 39) d_M_mayBecome_1 (by rw [h1]; decide) (by rw [h1]; decide) (by rw [h1]; rfl) rfl) ?_
    refine S.of1 (pc2 := 41) (fun Q => g_iload_n d_M_mayBecome_40 rfl) ?_
    refine S.of1 (pc2 := 42) (fun Q => g_i2l d_M_mayBecome_41) ?_
    refine S.of1 (pc2 := 43) (fun Q => g_lconst (v := (0 : Int64)) d_M_mayBecome_42 (by decide)) ?_
    refine S.of1 (pc2 := 46) (fun Q => g_ldc2 (v := (7 : Int64)) d_M_mayBecome_43 w_1271) ?_
    refine S.call_rI (pc3 := 49) rfl (c_M_within (d - 1) (by omega) (v1.toInt64) (0 : Int64) (7 : Int64) σ) (fun Q => g_callS (M2 := m_M_within) (vs := [.long (v1.toInt64), .long (0 : Int64), .long (7 : Int64)]) (st := []) ls_RX11_84 rfl (Nat.le_of_ble_eq_true rfl) (by omega) (Nat.le_of_ble_eq_true rfl) rfl d_M_mayBecome_46) (fun q2 => ?_)
    refine S.chk (fun h3 => ?_)
    exact S.ret (fun Q hq => g_zret rfl (gzb_n h3) d_M_mayBecome_49 hq)
  · refine S.cs (c := v0 = (1 : Int32)) (fun h4 => ?_) (fun h4 => ?_)
    · refine S.of1 (pc2 := 50) (fun Q => g_tableIn (off := 49) d_M_mayBecome_1 (by rw [h4]; decide) (by rw [h4]; decide) (by rw [h4]; rfl) rfl) ?_
      refine S.of1 (pc2 := 51) (fun Q => g_iload_n d_M_mayBecome_50 rfl) ?_
      refine S.of1 (pc2 := 52) (fun Q => g_i2l d_M_mayBecome_51) ?_
      refine S.of1 (pc2 := 53) (fun Q => g_lconst (v := (0 : Int64)) d_M_mayBecome_52 (by decide)) ?_
      refine S.of1 (pc2 := 56) (fun Q => g_ldc2 (v := (12 : Int64)) d_M_mayBecome_53 w_1275) ?_
      refine S.call_rI (pc3 := 59) rfl (c_M_within (d - 1) (by omega) (v1.toInt64) (0 : Int64) (12 : Int64) σ) (fun Q => g_callS (M2 := m_M_within) (vs := [.long (v1.toInt64), .long (0 : Int64), .long (12 : Int64)]) (st := []) ls_RX11_84 rfl (Nat.le_of_ble_eq_true rfl) (by omega) (Nat.le_of_ble_eq_true rfl) rfl d_M_mayBecome_56) (fun q5 => ?_)
      refine S.chk (fun h6 => ?_)
      exact S.ret (fun Q hq => g_zret rfl (gzb_n h6) d_M_mayBecome_59 hq)
    · refine S.cs (c := v0 = (2 : Int32)) (fun h7 => ?_) (fun h7 => ?_)
      · refine S.of1 (pc2 := 95) (fun Q => g_tableIn (off := 94) d_M_mayBecome_1 (by rw [h7]; decide) (by rw [h7]; decide) (by rw [h7]; rfl) rfl) ?_
        exact S.wk (L2 := [none, some (.int v1)]) (And.intro rfl trivial) (s_M_mayBecome_j95 d hd σ v1)
      · refine S.cs (c := v0 = (3 : Int32)) (fun h10 => ?_) (fun h10 => ?_)
        · refine S.of1 (pc2 := 60) (fun Q => g_tableIn (off := 59) d_M_mayBecome_1 (by rw [h10]; decide) (by rw [h10]; decide) (by rw [h10]; rfl) rfl) ?_
          refine S.of1 (pc2 := 61) (fun Q => g_iload_n d_M_mayBecome_60 rfl) ?_
          refine S.of1 (pc2 := 62) (fun Q => g_iconst (v := (-1 : Int32)) d_M_mayBecome_61 (by decide)) ?_
          refine S.br (c := v1 = (-1 : Int32)) (t := 73) (e := 65) (fun Q kt kf => g_icmp_eq d_M_mayBecome_62 rfl kt kf) (fun h11 => ?_) (fun h11 => ?_)
          · exact S.wk (L2 := [none, none]) trivial (s_M_mayBecome_j73 d hd σ)
          · refine S.of1 (pc2 := 66) (fun Q => g_iload_n d_M_mayBecome_65 rfl) ?_
            refine S.of1 (pc2 := 67) (fun Q => g_i2l d_M_mayBecome_66) ?_
            refine S.call_rI (pc3 := 70) rfl (c_M_isWeather (d - 1) (by omega) (v1.toInt64) σ) (fun Q => g_callS (M2 := m_M_isWeather) (vs := [.long (v1.toInt64)]) (st := []) ls_RX11_119 rfl (Nat.le_of_ble_eq_true rfl) (by omega) (Nat.le_of_ble_eq_true rfl) rfl d_M_mayBecome_67) (fun q12 => ?_)
            refine S.br (c := q12 = 0) (t := 77) (e := 73) (fun Q kt kf => g_if_eq d_M_mayBecome_70 rfl kt kf) (fun h13 => ?_) (fun h13 => ?_)
            · refine S.of1 (pc2 := 78) (fun Q => g_iconst (v := (0 : Int32)) d_M_mayBecome_77 (by decide)) ?_
              exact S.ret (fun Q hq => g_zret rfl rfl d_M_mayBecome_78 hq)
            · exact S.wk (L2 := [none, none]) trivial (s_M_mayBecome_j73 d hd σ)
        · refine S.cs (c := v0 = (4 : Int32)) (fun h14 => ?_) (fun h14 => ?_)
          · refine S.of1 (pc2 := 79) (fun Q => g_tableIn (off := 78) d_M_mayBecome_1 (by rw [h14]; decide) (by rw [h14]; decide) (by rw [h14]; rfl) rfl) ?_
            refine S.of1 (pc2 := 80) (fun Q => g_iload_n d_M_mayBecome_79 rfl) ?_
            refine S.of1 (pc2 := 81) (fun Q => g_i2l d_M_mayBecome_80) ?_
            refine S.call_rI (pc3 := 84) rfl (c_M_isWeather (d - 1) (by omega) (v1.toInt64) σ) (fun Q => g_callS (M2 := m_M_isWeather) (vs := [.long (v1.toInt64)]) (st := []) ls_RX11_119 rfl (Nat.le_of_ble_eq_true rfl) (by omega) (Nat.le_of_ble_eq_true rfl) rfl d_M_mayBecome_81) (fun q15 => ?_)
            refine S.chk (fun h16 => ?_)
            exact S.ret (fun Q hq => g_zret rfl (gzb_n h16) d_M_mayBecome_84 hq)
          · refine S.cs (c := v0 = (5 : Int32)) (fun h17 => ?_) (fun h17 => ?_)
            · refine S.of1 (pc2 := 85) (fun Q => g_tableIn (off := 84) d_M_mayBecome_1 (by rw [h17]; decide) (by rw [h17]; decide) (by rw [h17]; rfl) rfl) ?_
              refine S.of1 (pc2 := 86) (fun Q => g_iload_n d_M_mayBecome_85 rfl) ?_
              refine S.of1 (pc2 := 87) (fun Q => g_i2l d_M_mayBecome_86) ?_
              refine S.of1 (pc2 := 88) (fun Q => g_lconst (v := (0 : Int64)) d_M_mayBecome_87 (by decide)) ?_
              refine S.of1 (pc2 := 91) (fun Q => g_ldc2 (v := (2 : Int64)) d_M_mayBecome_88 w_1311) ?_
              refine S.call_rI (pc3 := 94) rfl (c_M_within (d - 1) (by omega) (v1.toInt64) (0 : Int64) (2 : Int64) σ) (fun Q => g_callS (M2 := m_M_within) (vs := [.long (v1.toInt64), .long (0 : Int64), .long (2 : Int64)]) (st := []) ls_RX11_84 rfl (Nat.le_of_ble_eq_true rfl) (by omega) (Nat.le_of_ble_eq_true rfl) rfl d_M_mayBecome_91) (fun q18 => ?_)
              refine S.chk (fun h19 => ?_)
              exact S.ret (fun Q hq => g_zret rfl (gzb_n h19) d_M_mayBecome_94 hq)
            · refine S.of1 (pc2 := 95) (fun Q => g_tableOut d_M_mayBecome_1 (by have a0 := lv_neT h1 (a := 0) (by decide); have a1 := lv_neT h4 (a := 1) (by decide); have a2 := lv_neT h7 (a := 2) (by decide); have a3 := lv_neT h10 (a := 3) (by decide); have a4 := lv_neT h14 (a := 4) (by decide); have a5 := lv_neT h17 (a := 5) (by decide); omega) rfl) ?_
              exact S.wk (L2 := [none, some (.int v1)]) (And.intro rfl trivial) (s_M_mayBecome_j95 d hd σ v1)
def f_M_mend (v1 : Int32) (v2 : Int32) (v3 : Int32) (σ : gS) : Option (Int32 × gS) :=
  (f_M_placeOf v1 v2 σ).bind fun q1 => if q1 < 0 then some ((-2000000000 : Int32), σ) else (f_M_mayBecome v2 v3).bind fun q3 => if q3 = 0 then some ((-2000000000 : Int32), σ) else (f_M_becomes q1 v3 σ).bind fun q5 => some (q5.1, q5.2)
theorem c_M_mend (d : Nat) (hd : 4 ≤ d) (v1 : Int32) (v2 : Int32) (v3 : Int32) (σ : gS) : C wI d m_M_mend [.ref 59, .int v1, .int v2, .int v3] σ (f_M_mend v1 v2 v3 σ) := by
  unfold f_M_mend
  refine C.of (by decide +kernel) (Nat.le_of_ble_eq_true rfl) (L := [some (.ref 59), some (.int v1), some (.int v2), some (.int v3), none]) rfl ?_
  refine S.of1 (pc2 := 1) (fun Q => g_aload_n d_M_mend_0 rfl) ?_
  refine S.of1 (pc2 := 2) (fun Q => g_iload_n d_M_mend_1 rfl) ?_
  refine S.of1 (pc2 := 3) (fun Q => g_iload_n d_M_mend_2 rfl) ?_
  refine S.call_rI (pc3 := 6) rfl (c_M_placeOf (d - 1) (by omega) v1 v2 σ) (fun Q => g_callV (M2 := m_M_placeOf) (vs := [.int v1, .int v2]) (st := []) lv_RX11_124 gk_59 rfl rfl (Nat.le_of_ble_eq_true rfl) (by omega) (Nat.le_of_ble_eq_true rfl) rfl d_M_mend_3) (fun q1 => ?_)
  refine S.of1 (pc2 := 8) (L2 := [some (.ref 59), some (.int v1), some (.int v2), some (.int v3), some (.int q1)]) (fun Q => g_istore d_M_mend_6 (Nat.le_of_ble_eq_true rfl) rfl) ?_
  refine S.of1 (pc2 := 10) (fun Q => g_iload d_M_mend_8 rfl) ?_
  refine S.br (c := q1 < 0) (t := 31) (e := 13) (fun Q kt kf => g_if_lt d_M_mend_10 rfl kt kf) (fun h2 => ?_) (fun h2 => ?_)
  · refine S.of1 (pc2 := 33) (fun Q => g_ldc (v := (-2000000000 : Int32)) d_M_mend_31 w_1316) ?_
    exact S.ret (fun Q hq => g_iret rfl d_M_mend_33 hq)
  · refine S.of1 (pc2 := 14) (fun Q => g_iload_n d_M_mend_13 rfl) ?_
    refine S.of1 (pc2 := 15) (fun Q => g_iload_n d_M_mend_14 rfl) ?_
    refine S.call_rI (pc3 := 18) rfl (c_M_mayBecome (d - 1) (by omega) v2 v3 σ) (fun Q => g_callS (M2 := m_M_mayBecome) (vs := [.int v2, .int v3]) (st := []) ls_RX11_128 rfl (Nat.le_of_ble_eq_true rfl) (by omega) (Nat.le_of_ble_eq_true rfl) rfl d_M_mend_15) (fun q3 => ?_)
    refine S.br (c := q3 = 0) (t := 31) (e := 21) (fun Q kt kf => g_if_eq d_M_mend_18 rfl kt kf) (fun h4 => ?_) (fun h4 => ?_)
    · refine S.of1 (pc2 := 33) (fun Q => g_ldc (v := (-2000000000 : Int32)) d_M_mend_31 w_1316) ?_
      exact S.ret (fun Q hq => g_iret rfl d_M_mend_33 hq)
    · refine S.of1 (pc2 := 22) (fun Q => g_aload_n d_M_mend_21 rfl) ?_
      refine S.of1 (pc2 := 24) (fun Q => g_iload d_M_mend_22 rfl) ?_
      refine S.of1 (pc2 := 25) (fun Q => g_iload_n d_M_mend_24 rfl) ?_
      refine S.call_wI (pc3 := 28) rfl (c_M_becomes (d - 1) (by omega) q1 v3 σ) (fun Q => g_callV (M2 := m_M_becomes) (vs := [.int q1, .int v3]) (st := []) lv_RX11_132 gk_59 rfl rfl (Nat.le_of_ble_eq_true rfl) (by omega) (Nat.le_of_ble_eq_true rfl) rfl d_M_mend_25) (fun q5 => ?_)
      refine S.of1 (pc2 := 33) (fun Q => g_goto d_M_mend_28 rfl) ?_
      exact S.ret (fun Q hq => g_iret rfl d_M_mend_33 hq)
def f_M_of (v1 : Int32) (v2 : Int32) (σ : gS) : Option Int32 :=
  (f_M_placeOf v1 v2 σ).bind fun q1 => if q1 < 0 then some (-2000000000 : Int32) else if gix q1 43 then some (σ.1 60 q1.toNatClampNeg) else none
theorem c_M_of (d : Nat) (hd : 4 ≤ d) (v1 : Int32) (v2 : Int32) (σ : gS) : C (rI σ) d m_M_of [.ref 59, .int v1, .int v2] σ (f_M_of v1 v2 σ) := by
  unfold f_M_of
  refine C.of (by decide +kernel) (Nat.le_of_ble_eq_true rfl) (L := [some (.ref 59), some (.int v1), some (.int v2), none]) rfl ?_
  refine S.of1 (pc2 := 1) (fun Q => g_aload_n d_M_of_0 rfl) ?_
  refine S.of1 (pc2 := 2) (fun Q => g_iload_n d_M_of_1 rfl) ?_
  refine S.of1 (pc2 := 3) (fun Q => g_iload_n d_M_of_2 rfl) ?_
  refine S.call_rI (pc3 := 6) rfl (c_M_placeOf (d - 1) (by omega) v1 v2 σ) (fun Q => g_callV (M2 := m_M_placeOf) (vs := [.int v1, .int v2]) (st := []) lv_RX11_124 gk_59 rfl rfl (Nat.le_of_ble_eq_true rfl) (by omega) (Nat.le_of_ble_eq_true rfl) rfl d_M_of_3) (fun q1 => ?_)
  refine S.of1 (pc2 := 7) (L2 := [some (.ref 59), some (.int v1), some (.int v2), some (.int q1)]) (fun Q => g_istore_n d_M_of_6 (Nat.le_of_ble_eq_true rfl) rfl) ?_
  refine S.of1 (pc2 := 8) (fun Q => g_iload_n d_M_of_7 rfl) ?_
  refine S.br (c := q1 < 0) (t := 20) (e := 11) (fun Q kt kf => g_if_lt d_M_of_8 rfl kt kf) (fun h2 => ?_) (fun h2 => ?_)
  · refine S.of1 (pc2 := 22) (fun Q => g_ldc (v := (-2000000000 : Int32)) d_M_of_20 w_1316) ?_
    exact S.ret (fun Q hq => g_iret rfl d_M_of_22 hq)
  · refine S.of1 (pc2 := 12) (fun Q => g_aload_n d_M_of_11 rfl) ?_
    refine S.of1 (pc2 := 15) (fun Q => g_getr fl_RX11_9 gc_59_0 d_M_of_12) ?_
    refine S.of1 (pc2 := 16) (fun Q => g_iload_n d_M_of_15 rfl) ?_
    refine S.chk (fun h3 => ?_)
    refine S.of1 (pc2 := 17) (fun Q => g_iald ga_60 (gix_in h3) d_M_of_16) ?_
    refine S.of1 (pc2 := 22) (fun Q => g_goto d_M_of_17 rfl) ?_
    exact S.ret (fun Q hq => g_iret rfl d_M_of_22 hq)
def f_M_feed (v1 : Int32) (σ : gS) : Option (Int32 × gS) :=
  (f_M_within (v1.toInt64) (0 : Int64) (255 : Int64)).bind fun q1 => if q1 = 0 then some ((-1 : Int32), σ) else if (σ.1 59 8) = (120 : Int32) then some ((-3 : Int32), σ) else if gix (σ.1 59 8) 120 then gup (gpi σ 64 (σ.1 59 8).toNatClampNeg v1) fun s5 => gup (gpi s5 59 8 ((s5.1 59 8) + (1 : Int32))) fun s6 => some ((s6.1 59 8), s6) else none
theorem c_M_feed (d : Nat) (hd : 2 ≤ d) (v1 : Int32) (σ : gS) : C wI d m_M_feed [.ref 59, .int v1] σ (f_M_feed v1 σ) := by
  unfold f_M_feed
  refine C.of (by decide +kernel) (Nat.le_of_ble_eq_true rfl) (L := [some (.ref 59), some (.int v1)]) rfl ?_
  refine S.of1 (pc2 := 1) (fun Q => g_iload_n d_M_feed_0 rfl) ?_
  refine S.of1 (pc2 := 2) (fun Q => g_i2l d_M_feed_1) ?_
  refine S.of1 (pc2 := 3) (fun Q => g_lconst (v := (0 : Int64)) d_M_feed_2 (by decide)) ?_
  refine S.of1 (pc2 := 6) (fun Q => g_ldc2 (v := (255 : Int64)) d_M_feed_3 w_1325) ?_
  refine S.call_rI (pc3 := 9) rfl (c_M_within (d - 1) (by omega) (v1.toInt64) (0 : Int64) (255 : Int64) σ) (fun Q => g_callS (M2 := m_M_within) (vs := [.long (v1.toInt64), .long (0 : Int64), .long (255 : Int64)]) (st := []) ls_RX11_84 rfl (Nat.le_of_ble_eq_true rfl) (by omega) (Nat.le_of_ble_eq_true rfl) rfl d_M_feed_6) (fun q1 => ?_)
  refine S.br (c := q1 = 0) (t := 12) (e := 14) (fun Q kt kf => g_if_ne d_M_feed_9 rfl kf kt) (fun h2 => ?_) (fun h2 => ?_)
  · refine S.of1 (pc2 := 13) (fun Q => g_iconst (v := (-1 : Int32)) d_M_feed_12 (by decide)) ?_
    exact S.ret (fun Q hq => g_iret rfl d_M_feed_13 hq)
  · refine S.of1 (pc2 := 15) (fun Q => g_aload_n d_M_feed_14 rfl) ?_
    refine S.of1 (pc2 := 18) (fun Q => g_geti fl_RX11_138 gc_59_8 d_M_feed_15) ?_
    refine S.of1 (pc2 := 20) (fun Q => g_bipush (v := (120 : Int32)) d_M_feed_18 (by decide)) ?_
    refine S.br (c := (σ.1 59 8) = (120 : Int32)) (t := 23) (e := 26) (fun Q kt kf => g_icmp_ne d_M_feed_20 rfl kf kt) (fun h3 => ?_) (fun h3 => ?_)
    · refine S.of1 (pc2 := 25) (fun Q => g_bipush (v := (-3 : Int32)) d_M_feed_23 (by decide)) ?_
      exact S.ret (fun Q hq => g_iret rfl d_M_feed_25 hq)
    · refine S.of1 (pc2 := 27) (fun Q => g_aload_n d_M_feed_26 rfl) ?_
      refine S.of1 (pc2 := 30) (fun Q => g_getr fl_RX11_22 gc_59_7 d_M_feed_27) ?_
      refine S.of1 (pc2 := 31) (fun Q => g_aload_n d_M_feed_30 rfl) ?_
      refine S.of1 (pc2 := 34) (fun Q => g_geti fl_RX11_138 gc_59_8 d_M_feed_31) ?_
      refine S.of1 (pc2 := 35) (fun Q => g_iload_n d_M_feed_34 rfl) ?_
      refine S.chk (fun h4 => ?_)
      refine S.of1 (pc2 := 36) (fun Q => g_iast ga_64 (gix_in h4) d_M_feed_35) ?_
      refine S.gup (fun s5 => ?_)
      refine S.of1 (pc2 := 37) (fun Q => g_aload_n d_M_feed_36 rfl) ?_
      refine S.of1 (pc2 := 38) (fun Q => g_dup d_M_feed_37 rfl) ?_
      refine S.of1 (pc2 := 41) (fun Q => g_geti fl_RX11_138 gc_59_8 d_M_feed_38) ?_
      refine S.of1 (pc2 := 42) (fun Q => g_iconst (v := (1 : Int32)) d_M_feed_41 (by decide)) ?_
      refine S.of1 (pc2 := 43) (fun Q => g_iadd d_M_feed_42) ?_
      refine S.of1 (pc2 := 46) (fun Q => g_puti fl_RX11_138 gc_59_8 rfl rfl d_M_feed_43) ?_
      refine S.gup (fun s6 => ?_)
      refine S.of1 (pc2 := 47) (fun Q => g_aload_n d_M_feed_46 rfl) ?_
      refine S.of1 (pc2 := 50) (fun Q => g_geti fl_RX11_138 gc_59_8 d_M_feed_47) ?_
      exact S.ret (fun Q hq => g_iret rfl d_M_feed_50 hq)
def f_M_byteAt (σ : gS) : Option Int32 :=
  if (σ.1 59 13) ≤ (σ.1 59 12) then some (0 : Int32) else if 0 ≤ (σ.1 59 11) then if gix ((σ.1 59 11) + (σ.1 59 12)) 120 then some (σ.1 65 ((σ.1 59 11) + (σ.1 59 12)).toNatClampNeg) else none else if gix (σ.1 59 12) 120 then some (σ.1 64 (σ.1 59 12).toNatClampNeg) else none
theorem c_M_byteAt (d : Nat) (hd : 1 ≤ d) (σ : gS) : C (rI σ) d m_M_byteAt [.ref 59] σ (f_M_byteAt σ) := by
  unfold f_M_byteAt
  refine C.of (by decide +kernel) (Nat.le_of_ble_eq_true rfl) (L := [some (.ref 59)]) rfl ?_
  refine S.of1 (pc2 := 1) (fun Q => g_aload_n d_M_byteAt_0 rfl) ?_
  refine S.of1 (pc2 := 4) (fun Q => g_geti fl_RX11_141 gc_59_12 d_M_byteAt_1) ?_
  refine S.of1 (pc2 := 5) (fun Q => g_aload_n d_M_byteAt_4 rfl) ?_
  refine S.of1 (pc2 := 8) (fun Q => g_geti fl_RX11_144 gc_59_13 d_M_byteAt_5) ?_
  refine S.br (c := (σ.1 59 13) ≤ (σ.1 59 12)) (t := 47) (e := 11) (fun Q kt kf => g_icmp_ge d_M_byteAt_8 rfl kt kf) (fun h1 => ?_) (fun h1 => ?_)
  · refine S.of1 (pc2 := 48) (fun Q => g_iconst (v := (0 : Int32)) d_M_byteAt_47 (by decide)) ?_
    exact S.ret (fun Q hq => g_iret rfl d_M_byteAt_48 hq)
  · refine S.of1 (pc2 := 12) (fun Q => g_aload_n d_M_byteAt_11 rfl) ?_
    refine S.of1 (pc2 := 15) (fun Q => g_geti fl_RX11_147 gc_59_11 d_M_byteAt_12) ?_
    refine S.br (c := 0 ≤ (σ.1 59 11)) (t := 30) (e := 18) (fun Q kt kf => g_if_ge d_M_byteAt_15 rfl kt kf) (fun h2 => ?_) (fun h2 => ?_)
    · refine S.of1 (pc2 := 31) (fun Q => g_aload_n d_M_byteAt_30 rfl) ?_
      refine S.of1 (pc2 := 34) (fun Q => g_getr fl_RX11_25 gc_59_9 d_M_byteAt_31) ?_
      refine S.of1 (pc2 := 35) (fun Q => g_aload_n d_M_byteAt_34 rfl) ?_
      refine S.of1 (pc2 := 38) (fun Q => g_geti fl_RX11_147 gc_59_11 d_M_byteAt_35) ?_
      refine S.of1 (pc2 := 39) (fun Q => g_aload_n d_M_byteAt_38 rfl) ?_
      refine S.of1 (pc2 := 42) (fun Q => g_geti fl_RX11_141 gc_59_12 d_M_byteAt_39) ?_
      refine S.of1 (pc2 := 43) (fun Q => g_iadd d_M_byteAt_42) ?_
      refine S.chk (fun h3 => ?_)
      refine S.of1 (pc2 := 44) (fun Q => g_iald ga_65 (gix_in h3) d_M_byteAt_43) ?_
      refine S.of1 (pc2 := 48) (fun Q => g_goto d_M_byteAt_44 rfl) ?_
      exact S.ret (fun Q hq => g_iret rfl d_M_byteAt_48 hq)
    · refine S.of1 (pc2 := 19) (fun Q => g_aload_n d_M_byteAt_18 rfl) ?_
      refine S.of1 (pc2 := 22) (fun Q => g_getr fl_RX11_22 gc_59_7 d_M_byteAt_19) ?_
      refine S.of1 (pc2 := 23) (fun Q => g_aload_n d_M_byteAt_22 rfl) ?_
      refine S.of1 (pc2 := 26) (fun Q => g_geti fl_RX11_141 gc_59_12 d_M_byteAt_23) ?_
      refine S.chk (fun h4 => ?_)
      refine S.of1 (pc2 := 27) (fun Q => g_iald ga_64 (gix_in h4) d_M_byteAt_26) ?_
      refine S.of1 (pc2 := 48) (fun Q => g_goto d_M_byteAt_27 rfl) ?_
      exact S.ret (fun Q hq => g_iret rfl d_M_byteAt_48 hq)
def f_M_wrong_j19 (s0 : Int32) (σ : gS) : Option (Int32 × gS) :=
  gup (gpi σ 59 14 s0) fun s2 => some ((0 : Int32), s2)
theorem s_M_wrong_j19 (d : Nat) (hd : 1 ≤ d) (s0 : Int32) (σ : gS) : S wI m_M_wrong d 19 [none] [.int s0, .ref 59] σ (f_M_wrong_j19 s0 σ) := by
  unfold f_M_wrong_j19
  refine S.of1 (pc2 := 22) (fun Q => g_puti fl_RX11_150 gc_59_14 rfl rfl d_M_wrong_19) ?_
  refine S.gup (fun s2 => ?_)
  refine S.of1 (pc2 := 23) (fun Q => g_iconst (v := (0 : Int32)) d_M_wrong_22 (by decide)) ?_
  exact S.ret (fun Q hq => g_iret rfl d_M_wrong_23 hq)
def f_M_wrong (σ : gS) : Option (Int32 × gS) :=
  if 0 ≤ (σ.1 59 14) then f_M_wrong_j19 (σ.1 59 14) σ else f_M_wrong_j19 (σ.1 59 12) σ
theorem c_M_wrong (d : Nat) (hd : 1 ≤ d) (σ : gS) : C wI d m_M_wrong [.ref 59] σ (f_M_wrong σ) := by
  unfold f_M_wrong
  refine C.of (by decide +kernel) (Nat.le_of_ble_eq_true rfl) (L := [some (.ref 59)]) rfl ?_
  refine S.of1 (pc2 := 1) (fun Q => g_aload_n d_M_wrong_0 rfl) ?_
  refine S.of1 (pc2 := 2) (fun Q => g_aload_n d_M_wrong_1 rfl) ?_
  refine S.of1 (pc2 := 5) (fun Q => g_geti fl_RX11_150 gc_59_14 d_M_wrong_2) ?_
  refine S.br (c := 0 ≤ (σ.1 59 14)) (t := 15) (e := 8) (fun Q kt kf => g_if_ge d_M_wrong_5 rfl kt kf) (fun h1 => ?_) (fun h1 => ?_)
  · refine S.of1 (pc2 := 16) (fun Q => g_aload_n d_M_wrong_15 rfl) ?_
    refine S.of1 (pc2 := 19) (fun Q => g_geti fl_RX11_150 gc_59_14 d_M_wrong_16) ?_
    exact S.wk (L2 := [none]) trivial (s_M_wrong_j19 d hd (σ.1 59 14) σ)
  · refine S.of1 (pc2 := 9) (fun Q => g_aload_n d_M_wrong_8 rfl) ?_
    refine S.of1 (pc2 := 12) (fun Q => g_geti fl_RX11_141 gc_59_12 d_M_wrong_9) ?_
    refine S.of1 (pc2 := 19) (fun Q => g_goto d_M_wrong_12 rfl) ?_
    exact S.wk (L2 := [none]) trivial (s_M_wrong_j19 d hd (σ.1 59 12) σ)
def f_M_takes (v1 : Int32) (σ : gS) : Option (Int32 × gS) :=
  if 0 ≤ (σ.1 59 14) then some ((0 : Int32), σ) else (f_M_byteAt σ).bind fun q2 => if q2 = v1 then gup (gpi σ 59 12 ((σ.1 59 12) + (1 : Int32))) fun s4 => some ((1 : Int32), s4) else some ((0 : Int32), σ)
theorem c_M_takes (d : Nat) (hd : 2 ≤ d) (v1 : Int32) (σ : gS) : C wI d m_M_takes [.ref 59, .int v1] σ (f_M_takes v1 σ) := by
  unfold f_M_takes
  refine C.of (by decide +kernel) (Nat.le_of_ble_eq_true rfl) (L := [some (.ref 59), some (.int v1)]) rfl ?_
  refine S.of1 (pc2 := 1) (fun Q => g_aload_n d_M_takes_0 rfl) ?_
  refine S.of1 (pc2 := 4) (fun Q => g_geti fl_RX11_150 gc_59_14 d_M_takes_1) ?_
  refine S.br (c := 0 ≤ (σ.1 59 14)) (t := 15) (e := 7) (fun Q kt kf => g_if_ge d_M_takes_4 rfl kt kf) (fun h1 => ?_) (fun h1 => ?_)
  · refine S.of1 (pc2 := 16) (fun Q => g_iconst (v := (0 : Int32)) d_M_takes_15 (by decide)) ?_
    exact S.ret (fun Q hq => g_zret rfl rfl d_M_takes_16 hq)
  · refine S.of1 (pc2 := 8) (fun Q => g_aload_n d_M_takes_7 rfl) ?_
    refine S.call_rI (pc3 := 11) rfl (c_M_byteAt (d - 1) (by omega) σ) (fun Q => g_callV (M2 := m_M_byteAt) (vs := []) (st := []) lv_RX11_153 gk_59 rfl rfl (Nat.le_of_ble_eq_true rfl) (by omega) (Nat.le_of_ble_eq_true rfl) rfl d_M_takes_8) (fun q2 => ?_)
    refine S.of1 (pc2 := 12) (fun Q => g_iload_n d_M_takes_11 rfl) ?_
    refine S.br (c := q2 = v1) (t := 17) (e := 15) (fun Q kt kf => g_icmp_eq d_M_takes_12 rfl kt kf) (fun h3 => ?_) (fun h3 => ?_)
    · refine S.of1 (pc2 := 18) (fun Q => g_aload_n d_M_takes_17 rfl) ?_
      refine S.of1 (pc2 := 19) (fun Q => g_dup d_M_takes_18 rfl) ?_
      refine S.of1 (pc2 := 22) (fun Q => g_geti fl_RX11_141 gc_59_12 d_M_takes_19) ?_
      refine S.of1 (pc2 := 23) (fun Q => g_iconst (v := (1 : Int32)) d_M_takes_22 (by decide)) ?_
      refine S.of1 (pc2 := 24) (fun Q => g_iadd d_M_takes_23) ?_
      refine S.of1 (pc2 := 27) (fun Q => g_puti fl_RX11_141 gc_59_12 rfl rfl d_M_takes_24) ?_
      refine S.gup (fun s4 => ?_)
      refine S.of1 (pc2 := 28) (fun Q => g_iconst (v := (1 : Int32)) d_M_takes_27 (by decide)) ?_
      exact S.ret (fun Q hq => g_zret rfl rfl d_M_takes_28 hq)
    · refine S.of1 (pc2 := 16) (fun Q => g_iconst (v := (0 : Int32)) d_M_takes_15 (by decide)) ?_
      exact S.ret (fun Q hq => g_zret rfl rfl d_M_takes_16 hq)
def f_M_nameOf (v0 : Int32) : Option Int32 :=
  if v0 = (99 : Int32) then some (5 : Int32) else if v0 = (100 : Int32) then some (4 : Int32) else if v0 = (101 : Int32) then some (1 : Int32) else if v0 = (102 : Int32) then some (-1 : Int32) else if v0 = (103 : Int32) then some (-1 : Int32) else if v0 = (104 : Int32) then some (-1 : Int32) else if v0 = (105 : Int32) then some (-1 : Int32) else if v0 = (106 : Int32) then some (-1 : Int32) else if v0 = (107 : Int32) then some (2 : Int32) else if v0 = (108 : Int32) then some (-1 : Int32) else if v0 = (109 : Int32) then some (-1 : Int32) else if v0 = (110 : Int32) then some (-1 : Int32) else if v0 = (111 : Int32) then some (-1 : Int32) else if v0 = (112 : Int32) then some (3 : Int32) else if v0 = (113 : Int32) then some (-1 : Int32) else if v0 = (114 : Int32) then some (-1 : Int32) else if v0 = (115 : Int32) then some (-1 : Int32) else if v0 = (116 : Int32) then some (0 : Int32) else some (-1 : Int32)
theorem c_M_nameOf (d : Nat) (hd : 1 ≤ d) (v0 : Int32) (σ : gS) : C (rI σ) d m_M_nameOf [.int v0] σ (f_M_nameOf v0) := by
  unfold f_M_nameOf
  refine C.of (by decide +kernel) (Nat.le_of_ble_eq_true rfl) (L := [some (.int v0)]) rfl ?_
  refine S.of1 (pc2 := 1) (fun Q => g_iload_n d_M_nameOf_0 rfl) ?_
  refine S.cs (c := v0 = (99 : Int32)) (fun h1 => ?_) (fun h1 => ?_)
  · refine S.of1 (pc2 := 98) (fun Q => g_tableIn (off := 97) d_M_nameOf_1 (by rw [h1]; decide) (by rw [h1]; decide) (by rw [h1]; rfl) rfl) ?_
    refine S.of1 (pc2 := 99) (fun Q => g_iconst (v := (5 : Int32)) d_M_nameOf_98 (by decide)) ?_
    exact S.ret (fun Q hq => g_iret rfl d_M_nameOf_99 hq)
  · refine S.cs (c := v0 = (100 : Int32)) (fun h2 => ?_) (fun h2 => ?_)
    · refine S.of1 (pc2 := 96) (fun Q => g_tableIn (off := 95) d_M_nameOf_1 (by rw [h2]; decide) (by rw [h2]; decide) (by rw [h2]; rfl) rfl) ?_
      refine S.of1 (pc2 := 97) (fun Q => g_iconst (v := (4 : Int32)) d_M_nameOf_96 (by decide)) ?_
      exact S.ret (fun Q hq => g_iret rfl d_M_nameOf_97 hq)
    · refine S.cs (c := v0 = (101 : Int32)) (fun h3 => ?_) (fun h3 => ?_)
      · refine S.of1 (pc2 := 90) (fun Q => g_tableIn (off := 89) d_M_nameOf_1 (by rw [h3]; decide) (by rw [h3]; decide) (by rw [h3]; rfl) rfl) ?_
        refine S.of1 (pc2 := 91) (fun Q => g_iconst (v := (1 : Int32)) d_M_nameOf_90 (by decide)) ?_
        exact S.ret (fun Q hq => g_iret rfl d_M_nameOf_91 hq)
      · refine S.cs (c := v0 = (102 : Int32)) (fun h4 => ?_) (fun h4 => ?_)
        · refine S.of1 (pc2 := 100) (fun Q => g_tableIn (off := 99) d_M_nameOf_1 (by rw [h4]; decide) (by rw [h4]; decide) (by rw [h4]; rfl) rfl) ?_
          refine S.of1 (pc2 := 101) (fun Q => g_iconst (v := (-1 : Int32)) d_M_nameOf_100 (by decide)) ?_
          exact S.ret (fun Q hq => g_iret rfl d_M_nameOf_101 hq)
        · refine S.cs (c := v0 = (103 : Int32)) (fun h5 => ?_) (fun h5 => ?_)
          · refine S.of1 (pc2 := 100) (fun Q => g_tableIn (off := 99) d_M_nameOf_1 (by rw [h5]; decide) (by rw [h5]; decide) (by rw [h5]; rfl) rfl) ?_
            refine S.of1 (pc2 := 101) (fun Q => g_iconst (v := (-1 : Int32)) d_M_nameOf_100 (by decide)) ?_
            exact S.ret (fun Q hq => g_iret rfl d_M_nameOf_101 hq)
          · refine S.cs (c := v0 = (104 : Int32)) (fun h6 => ?_) (fun h6 => ?_)
            · refine S.of1 (pc2 := 100) (fun Q => g_tableIn (off := 99) d_M_nameOf_1 (by rw [h6]; decide) (by rw [h6]; decide) (by rw [h6]; rfl) rfl) ?_
              refine S.of1 (pc2 := 101) (fun Q => g_iconst (v := (-1 : Int32)) d_M_nameOf_100 (by decide)) ?_
              exact S.ret (fun Q hq => g_iret rfl d_M_nameOf_101 hq)
            · refine S.cs (c := v0 = (105 : Int32)) (fun h7 => ?_) (fun h7 => ?_)
              · refine S.of1 (pc2 := 100) (fun Q => g_tableIn (off := 99) d_M_nameOf_1 (by rw [h7]; decide) (by rw [h7]; decide) (by rw [h7]; rfl) rfl) ?_
                refine S.of1 (pc2 := 101) (fun Q => g_iconst (v := (-1 : Int32)) d_M_nameOf_100 (by decide)) ?_
                exact S.ret (fun Q hq => g_iret rfl d_M_nameOf_101 hq)
              · refine S.cs (c := v0 = (106 : Int32)) (fun h8 => ?_) (fun h8 => ?_)
                · refine S.of1 (pc2 := 100) (fun Q => g_tableIn (off := 99) d_M_nameOf_1 (by rw [h8]; decide) (by rw [h8]; decide) (by rw [h8]; rfl) rfl) ?_
                  refine S.of1 (pc2 := 101) (fun Q => g_iconst (v := (-1 : Int32)) d_M_nameOf_100 (by decide)) ?_
                  exact S.ret (fun Q hq => g_iret rfl d_M_nameOf_101 hq)
                · refine S.cs (c := v0 = (107 : Int32)) (fun h9 => ?_) (fun h9 => ?_)
                  · refine S.of1 (pc2 := 92) (fun Q => g_tableIn (off := 91) d_M_nameOf_1 (by rw [h9]; decide) (by rw [h9]; decide) (by rw [h9]; rfl) rfl) ?_
                    refine S.of1 (pc2 := 93) (fun Q => g_iconst (v := (2 : Int32)) d_M_nameOf_92 (by decide)) ?_
                    exact S.ret (fun Q hq => g_iret rfl d_M_nameOf_93 hq)
                  · refine S.cs (c := v0 = (108 : Int32)) (fun h10 => ?_) (fun h10 => ?_)
                    · refine S.of1 (pc2 := 100) (fun Q => g_tableIn (off := 99) d_M_nameOf_1 (by rw [h10]; decide) (by rw [h10]; decide) (by rw [h10]; rfl) rfl) ?_
                      refine S.of1 (pc2 := 101) (fun Q => g_iconst (v := (-1 : Int32)) d_M_nameOf_100 (by decide)) ?_
                      exact S.ret (fun Q hq => g_iret rfl d_M_nameOf_101 hq)
                    · refine S.cs (c := v0 = (109 : Int32)) (fun h11 => ?_) (fun h11 => ?_)
                      · refine S.of1 (pc2 := 100) (fun Q => g_tableIn (off := 99) d_M_nameOf_1 (by rw [h11]; decide) (by rw [h11]; decide) (by rw [h11]; rfl) rfl) ?_
                        refine S.of1 (pc2 := 101) (fun Q => g_iconst (v := (-1 : Int32)) d_M_nameOf_100 (by decide)) ?_
                        exact S.ret (fun Q hq => g_iret rfl d_M_nameOf_101 hq)
                      · refine S.cs (c := v0 = (110 : Int32)) (fun h12 => ?_) (fun h12 => ?_)
                        · refine S.of1 (pc2 := 100) (fun Q => g_tableIn (off := 99) d_M_nameOf_1 (by rw [h12]; decide) (by rw [h12]; decide) (by rw [h12]; rfl) rfl) ?_
                          refine S.of1 (pc2 := 101) (fun Q => g_iconst (v := (-1 : Int32)) d_M_nameOf_100 (by decide)) ?_
                          exact S.ret (fun Q hq => g_iret rfl d_M_nameOf_101 hq)
                        · refine S.cs (c := v0 = (111 : Int32)) (fun h13 => ?_) (fun h13 => ?_)
                          · refine S.of1 (pc2 := 100) (fun Q => g_tableIn (off := 99) d_M_nameOf_1 (by rw [h13]; decide) (by rw [h13]; decide) (by rw [h13]; rfl) rfl) ?_
                            refine S.of1 (pc2 := 101) (fun Q => g_iconst (v := (-1 : Int32)) d_M_nameOf_100 (by decide)) ?_
                            exact S.ret (fun Q hq => g_iret rfl d_M_nameOf_101 hq)
                          · refine S.cs (c := v0 = (112 : Int32)) (fun h14 => ?_) (fun h14 => ?_)
                            · refine S.of1 (pc2 := 94) (fun Q => g_tableIn (off := 93) d_M_nameOf_1 (by rw [h14]; decide) (by rw [h14]; decide) (by rw [h14]; rfl) rfl) ?_
                              refine S.of1 (pc2 := 95) (fun Q => g_iconst (v := (3 : Int32)) d_M_nameOf_94 (by decide)) ?_
                              exact S.ret (fun Q hq => g_iret rfl d_M_nameOf_95 hq)
                            · refine S.cs (c := v0 = (113 : Int32)) (fun h15 => ?_) (fun h15 => ?_)
                              · refine S.of1 (pc2 := 100) (fun Q => g_tableIn (off := 99) d_M_nameOf_1 (by rw [h15]; decide) (by rw [h15]; decide) (by rw [h15]; rfl) rfl) ?_
                                refine S.of1 (pc2 := 101) (fun Q => g_iconst (v := (-1 : Int32)) d_M_nameOf_100 (by decide)) ?_
                                exact S.ret (fun Q hq => g_iret rfl d_M_nameOf_101 hq)
                              · refine S.cs (c := v0 = (114 : Int32)) (fun h16 => ?_) (fun h16 => ?_)
                                · refine S.of1 (pc2 := 100) (fun Q => g_tableIn (off := 99) d_M_nameOf_1 (by rw [h16]; decide) (by rw [h16]; decide) (by rw [h16]; rfl) rfl) ?_
                                  refine S.of1 (pc2 := 101) (fun Q => g_iconst (v := (-1 : Int32)) d_M_nameOf_100 (by decide)) ?_
                                  exact S.ret (fun Q hq => g_iret rfl d_M_nameOf_101 hq)
                                · refine S.cs (c := v0 = (115 : Int32)) (fun h17 => ?_) (fun h17 => ?_)
                                  · refine S.of1 (pc2 := 100) (fun Q => g_tableIn (off := 99) d_M_nameOf_1 (by rw [h17]; decide) (by rw [h17]; decide) (by rw [h17]; rfl) rfl) ?_
                                    refine S.of1 (pc2 := 101) (fun Q => g_iconst (v := (-1 : Int32)) d_M_nameOf_100 (by decide)) ?_
                                    exact S.ret (fun Q hq => g_iret rfl d_M_nameOf_101 hq)
                                  · refine S.cs (c := v0 = (116 : Int32)) (fun h18 => ?_) (fun h18 => ?_)
                                    · refine S.of1 (pc2 := 88) (fun Q => g_tableIn (off := 87) d_M_nameOf_1 (by rw [h18]; decide) (by rw [h18]; decide) (by rw [h18]; rfl) rfl) ?_
                                      refine S.of1 (pc2 := 89) (fun Q => g_iconst (v := (0 : Int32)) d_M_nameOf_88 (by decide)) ?_
                                      exact S.ret (fun Q hq => g_iret rfl d_M_nameOf_89 hq)
                                    · refine S.of1 (pc2 := 100) (fun Q => g_tableOut d_M_nameOf_1 (by have a0 := lv_neT h1 (a := 99) (by decide); have a1 := lv_neT h2 (a := 100) (by decide); have a2 := lv_neT h3 (a := 101) (by decide); have a3 := lv_neT h4 (a := 102) (by decide); have a4 := lv_neT h5 (a := 103) (by decide); have a5 := lv_neT h6 (a := 104) (by decide); have a6 := lv_neT h7 (a := 105) (by decide); have a7 := lv_neT h8 (a := 106) (by decide); have a8 := lv_neT h9 (a := 107) (by decide); have a9 := lv_neT h10 (a := 108) (by decide); have a10 := lv_neT h11 (a := 109) (by decide); have a11 := lv_neT h12 (a := 110) (by decide); have a12 := lv_neT h13 (a := 111) (by decide); have a13 := lv_neT h14 (a := 112) (by decide); have a14 := lv_neT h15 (a := 113) (by decide); have a15 := lv_neT h16 (a := 114) (by decide); have a16 := lv_neT h17 (a := 115) (by decide); have a17 := lv_neT h18 (a := 116) (by decide); omega) rfl) ?_
                                      refine S.of1 (pc2 := 101) (fun Q => g_iconst (v := (-1 : Int32)) d_M_nameOf_100 (by decide)) ?_
                                      exact S.ret (fun Q hq => g_iret rfl d_M_nameOf_101 hq)
def f_M_product_j85 (kone : gS → Option (Int32 × gS)) (k10 : Int32 → Int32 → gS → Option (Int32 × gS)) (s0 : Int32) (σ : gS) : Option (Int32 × gS) :=
  (f_M_byteAt σ).bind fun q8 => k10 s0 q8 σ
theorem s_M_product_j85 (D : Nat) (hD : 2 ≤ D) (kone : gS → Option (Int32 × gS)) (hkone : ∀ (d : Nat) (_ : D ≤ d) (σ : gS), C wI d m_M_one [.ref 59] σ (kone σ)) (d : Nat) (hd : D + 1 ≤ d) (k10 : Int32 → Int32 → gS → Option (Int32 × gS)) (hk10 : ∀ (v1 : Int32) (v2 : Int32) (τ : gS), S wI m_M_product d 10 [some (.ref 59), some (.int v1), some (.int v2), none] [] τ (k10 v1 v2 τ)) (s0 : Int32) (σ : gS) : S wI m_M_product d 85 [some (.ref 59), none, none, none] [.int s0] σ (f_M_product_j85 kone k10 s0 σ) := by
  unfold f_M_product_j85
  refine S.of1 (pc2 := 86) (L2 := [some (.ref 59), some (.int s0), none, none]) (fun Q => g_istore_n d_M_product_85 (Nat.le_of_ble_eq_true rfl) rfl) ?_
  refine S.of1 (pc2 := 87) (fun Q => g_aload_n d_M_product_86 rfl) ?_
  refine S.call_rI (pc3 := 90) rfl (c_M_byteAt (d - 1) (by omega) σ) (fun Q => g_callV (M2 := m_M_byteAt) (vs := []) (st := []) lv_RX11_153 gk_59 rfl rfl (Nat.le_of_ble_eq_true rfl) (by omega) (Nat.le_of_ble_eq_true rfl) rfl d_M_product_87) (fun q8 => ?_)
  refine S.of1 (pc2 := 91) (L2 := [some (.ref 59), some (.int s0), some (.int q8), none]) (fun Q => g_istore_n d_M_product_90 (Nat.le_of_ble_eq_true rfl) rfl) ?_
  refine S.of1 (pc2 := 10) (fun Q => g_goto d_M_product_91 rfl) ?_
  exact S.wk (L2 := [some (.ref 59), some (.int s0), some (.int q8), none]) (And.intro rfl (And.intro rfl (And.intro rfl trivial))) (hk10 s0 q8 σ)
def f_M_product_j35 (kone : gS → Option (Int32 × gS)) (k10 : Int32 → Int32 → gS → Option (Int32 × gS)) (v1 : Int32) (v2 : Int32) (σ : gS) : Option (Int32 × gS) :=
  gup (gpi σ 59 12 ((σ.1 59 12) + (1 : Int32))) fun s5 => (kone s5).bind fun q6 => if v2 = (42 : Int32) then f_M_product_j85 kone k10 (v1 * q6.1) q6.2 else if q6.1 = 0 then f_M_product_j85 kone k10 (0 : Int32) q6.2 else if v2 = (47 : Int32) then if q6.1 = 0 then none else f_M_product_j85 kone k10 (v1 / q6.1) q6.2 else if q6.1 = 0 then none else f_M_product_j85 kone k10 (grem v1 q6.1) q6.2
theorem s_M_product_j35 (D : Nat) (hD : 2 ≤ D) (kone : gS → Option (Int32 × gS)) (hkone : ∀ (d : Nat) (_ : D ≤ d) (σ : gS), C wI d m_M_one [.ref 59] σ (kone σ)) (d : Nat) (hd : D + 1 ≤ d) (k10 : Int32 → Int32 → gS → Option (Int32 × gS)) (hk10 : ∀ (v1 : Int32) (v2 : Int32) (τ : gS), S wI m_M_product d 10 [some (.ref 59), some (.int v1), some (.int v2), none] [] τ (k10 v1 v2 τ)) (v1 : Int32) (v2 : Int32) (σ : gS) : S wI m_M_product d 35 [some (.ref 59), some (.int v1), some (.int v2), none] [] σ (f_M_product_j35 kone k10 v1 v2 σ) := by
  unfold f_M_product_j35
  refine S.of1 (pc2 := 36) (fun Q => g_aload_n d_M_product_35 rfl) ?_
  refine S.of1 (pc2 := 37) (fun Q => g_dup d_M_product_36 rfl) ?_
  refine S.of1 (pc2 := 40) (fun Q => g_geti fl_RX11_141 gc_59_12 d_M_product_37) ?_
  refine S.of1 (pc2 := 41) (fun Q => g_iconst (v := (1 : Int32)) d_M_product_40 (by decide)) ?_
  refine S.of1 (pc2 := 42) (fun Q => g_iadd d_M_product_41) ?_
  refine S.of1 (pc2 := 45) (fun Q => g_puti fl_RX11_141 gc_59_12 rfl rfl d_M_product_42) ?_
  refine S.gup (fun s5 => ?_)
  refine S.of1 (pc2 := 46) (fun Q => g_aload_n d_M_product_45 rfl) ?_
  refine S.call_wI (pc3 := 49) rfl (hkone (d - 1) (by omega) s5) (fun Q => g_callV (M2 := m_M_one) (vs := []) (st := []) lv_RX11_172 gk_59 rfl rfl (Nat.le_of_ble_eq_true rfl) (by omega) (Nat.le_of_ble_eq_true rfl) rfl d_M_product_46) (fun q6 => ?_)
  refine S.of1 (pc2 := 50) (L2 := [some (.ref 59), some (.int v1), some (.int v2), some (.int q6.1)]) (fun Q => g_istore_n d_M_product_49 (Nat.le_of_ble_eq_true rfl) rfl) ?_
  refine S.of1 (pc2 := 51) (fun Q => g_iload_n d_M_product_50 rfl) ?_
  refine S.of1 (pc2 := 53) (fun Q => g_bipush (v := (42 : Int32)) d_M_product_51 (by decide)) ?_
  refine S.br (c := v2 = (42 : Int32)) (t := 56) (e := 62) (fun Q kt kf => g_icmp_ne d_M_product_53 rfl kf kt) (fun h7 => ?_) (fun h7 => ?_)
  · refine S.of1 (pc2 := 57) (fun Q => g_iload_n d_M_product_56 rfl) ?_
    refine S.of1 (pc2 := 58) (fun Q => g_iload_n d_M_product_57 rfl) ?_
    refine S.of1 (pc2 := 59) (fun Q => g_imul d_M_product_58) ?_
    refine S.of1 (pc2 := 85) (fun Q => g_goto d_M_product_59 rfl) ?_
    exact S.wk (L2 := [some (.ref 59), none, none, none]) (And.intro rfl trivial) (s_M_product_j85 D hD kone hkone d hd k10 hk10 (v1 * q6.1) q6.2)
  · refine S.of1 (pc2 := 63) (fun Q => g_iload_n d_M_product_62 rfl) ?_
    refine S.br (c := q6.1 = 0) (t := 66) (e := 70) (fun Q kt kf => g_if_ne d_M_product_63 rfl kf kt) (fun h9 => ?_) (fun h9 => ?_)
    · refine S.of1 (pc2 := 67) (fun Q => g_iconst (v := (0 : Int32)) d_M_product_66 (by decide)) ?_
      refine S.of1 (pc2 := 85) (fun Q => g_goto d_M_product_67 rfl) ?_
      exact S.wk (L2 := [some (.ref 59), none, none, none]) (And.intro rfl trivial) (s_M_product_j85 D hD kone hkone d hd k10 hk10 (0 : Int32) q6.2)
    · refine S.of1 (pc2 := 71) (fun Q => g_iload_n d_M_product_70 rfl) ?_
      refine S.of1 (pc2 := 73) (fun Q => g_bipush (v := (47 : Int32)) d_M_product_71 (by decide)) ?_
      refine S.br (c := v2 = (47 : Int32)) (t := 76) (e := 82) (fun Q kt kf => g_icmp_ne d_M_product_73 rfl kf kt) (fun h10 => ?_) (fun h10 => ?_)
      · refine S.of1 (pc2 := 77) (fun Q => g_iload_n d_M_product_76 rfl) ?_
        refine S.of1 (pc2 := 78) (fun Q => g_iload_n d_M_product_77 rfl) ?_
        refine S.nz (fun h11 => ?_)
        refine S.of1 (pc2 := 79) (fun Q => g_idiv d_M_product_78 h11) ?_
        refine S.of1 (pc2 := 85) (fun Q => g_goto d_M_product_79 rfl) ?_
        exact S.wk (L2 := [some (.ref 59), none, none, none]) (And.intro rfl trivial) (s_M_product_j85 D hD kone hkone d hd k10 hk10 (v1 / q6.1) q6.2)
      · refine S.of1 (pc2 := 83) (fun Q => g_iload_n d_M_product_82 rfl) ?_
        refine S.of1 (pc2 := 84) (fun Q => g_iload_n d_M_product_83 rfl) ?_
        refine S.nz (fun h12 => ?_)
        refine S.of1 (pc2 := 85) (fun Q => g_irem d_M_product_84 h12) ?_
        exact S.wk (L2 := [some (.ref 59), none, none, none]) (And.intro rfl trivial) (s_M_product_j85 D hD kone hkone d hd k10 hk10 (grem v1 q6.1) q6.2)
def f_M_product_L10 (kone : gS → Option (Int32 × gS)) : Nat → Int32 → Int32 → gS → Option (Int32 × gS)
  | 0, _, _, _ => none
  | n + 1, v1, v2, σ =>
  if 0 ≤ (σ.1 59 14) then some (v1, σ) else if v2 = (42 : Int32) then f_M_product_j35 kone (fun v1 v2 σ => f_M_product_L10 kone n v1 v2 σ) v1 v2 σ else if v2 = (47 : Int32) then f_M_product_j35 kone (fun v1 v2 σ => f_M_product_L10 kone n v1 v2 σ) v1 v2 σ else if v2 = (37 : Int32) then f_M_product_j35 kone (fun v1 v2 σ => f_M_product_L10 kone n v1 v2 σ) v1 v2 σ else some (v1, σ)
theorem s_M_product_L10 (D : Nat) (hD : 2 ≤ D) (kone : gS → Option (Int32 × gS)) (hkone : ∀ (d : Nat) (_ : D ≤ d) (σ : gS), C wI d m_M_one [.ref 59] σ (kone σ)) (d : Nat) (hd : D + 1 ≤ d) : ∀ (n : Nat) (v1 : Int32) (v2 : Int32) (σ : gS), S wI m_M_product d 10 [some (.ref 59), some (.int v1), some (.int v2), none] [] σ (f_M_product_L10 kone n v1 v2 σ) := by
  intro n
  induction n with
  | zero =>
    intros
    unfold f_M_product_L10
    exact S.no
  | succ n ih =>
    intro v1 v2 σ
    unfold f_M_product_L10
    refine S.of1 (pc2 := 11) (fun Q => g_aload_n d_M_product_10 rfl) ?_
    refine S.of1 (pc2 := 14) (fun Q => g_geti fl_RX11_150 gc_59_14 d_M_product_11) ?_
    refine S.br (c := 0 ≤ (σ.1 59 14)) (t := 94) (e := 17) (fun Q kt kf => g_if_ge d_M_product_14 rfl kt kf) (fun h3 => ?_) (fun h3 => ?_)
    · refine S.of1 (pc2 := 95) (fun Q => g_iload_n d_M_product_94 rfl) ?_
      exact S.ret (fun Q hq => g_iret rfl d_M_product_95 hq)
    · refine S.of1 (pc2 := 18) (fun Q => g_iload_n d_M_product_17 rfl) ?_
      refine S.of1 (pc2 := 20) (fun Q => g_bipush (v := (42 : Int32)) d_M_product_18 (by decide)) ?_
      refine S.br (c := v2 = (42 : Int32)) (t := 35) (e := 23) (fun Q kt kf => g_icmp_eq d_M_product_20 rfl kt kf) (fun h4 => ?_) (fun h4 => ?_)
      · exact S.wk (L2 := [some (.ref 59), some (.int v1), some (.int v2), none]) (And.intro rfl (And.intro rfl (And.intro rfl trivial))) (s_M_product_j35 D hD kone hkone d hd (fun v1 v2 σ => f_M_product_L10 kone n v1 v2 σ) (fun v1 v2 τ => ih v1 v2 τ) v1 v2 σ)
      · refine S.of1 (pc2 := 24) (fun Q => g_iload_n d_M_product_23 rfl) ?_
        refine S.of1 (pc2 := 26) (fun Q => g_bipush (v := (47 : Int32)) d_M_product_24 (by decide)) ?_
        refine S.br (c := v2 = (47 : Int32)) (t := 35) (e := 29) (fun Q kt kf => g_icmp_eq d_M_product_26 rfl kt kf) (fun h13 => ?_) (fun h13 => ?_)
        · exact S.wk (L2 := [some (.ref 59), some (.int v1), some (.int v2), none]) (And.intro rfl (And.intro rfl (And.intro rfl trivial))) (s_M_product_j35 D hD kone hkone d hd (fun v1 v2 σ => f_M_product_L10 kone n v1 v2 σ) (fun v1 v2 τ => ih v1 v2 τ) v1 v2 σ)
        · refine S.of1 (pc2 := 30) (fun Q => g_iload_n d_M_product_29 rfl) ?_
          refine S.of1 (pc2 := 32) (fun Q => g_bipush (v := (37 : Int32)) d_M_product_30 (by decide)) ?_
          refine S.br (c := v2 = (37 : Int32)) (t := 35) (e := 94) (fun Q kt kf => g_icmp_ne d_M_product_32 rfl kf kt) (fun h14 => ?_) (fun h14 => ?_)
          · exact S.wk (L2 := [some (.ref 59), some (.int v1), some (.int v2), none]) (And.intro rfl (And.intro rfl (And.intro rfl trivial))) (s_M_product_j35 D hD kone hkone d hd (fun v1 v2 σ => f_M_product_L10 kone n v1 v2 σ) (fun v1 v2 τ => ih v1 v2 τ) v1 v2 σ)
          · refine S.of1 (pc2 := 95) (fun Q => g_iload_n d_M_product_94 rfl) ?_
            exact S.ret (fun Q hq => g_iret rfl d_M_product_95 hq)
def fo_M_product (kone : gS → Option (Int32 × gS)) (σ : gS) : Option (Int32 × gS) :=
  (kone σ).bind fun q1 => (f_M_byteAt q1.2).bind fun q2 => f_M_product_L10 kone gfu q1.1 q2 q1.2
theorem co_M_product (D : Nat) (hD : 2 ≤ D) (kone : gS → Option (Int32 × gS)) (hkone : ∀ (d : Nat) (_ : D ≤ d) (σ : gS), C wI d m_M_one [.ref 59] σ (kone σ)) (d : Nat) (hd : D + 1 ≤ d) (σ : gS) : C wI d m_M_product [.ref 59] σ (fo_M_product kone σ) := by
  unfold fo_M_product
  refine C.of (by decide +kernel) (Nat.le_of_ble_eq_true rfl) (L := [some (.ref 59), none, none, none]) rfl ?_
  refine S.of1 (pc2 := 1) (fun Q => g_aload_n d_M_product_0 rfl) ?_
  refine S.call_wI (pc3 := 4) rfl (hkone (d - 1) (by omega) σ) (fun Q => g_callV (M2 := m_M_one) (vs := []) (st := []) lv_RX11_172 gk_59 rfl rfl (Nat.le_of_ble_eq_true rfl) (by omega) (Nat.le_of_ble_eq_true rfl) rfl d_M_product_1) (fun q1 => ?_)
  refine S.of1 (pc2 := 5) (L2 := [some (.ref 59), some (.int q1.1), none, none]) (fun Q => g_istore_n d_M_product_4 (Nat.le_of_ble_eq_true rfl) rfl) ?_
  refine S.of1 (pc2 := 6) (fun Q => g_aload_n d_M_product_5 rfl) ?_
  refine S.call_rI (pc3 := 9) rfl (c_M_byteAt (d - 1) (by omega) q1.2) (fun Q => g_callV (M2 := m_M_byteAt) (vs := []) (st := []) lv_RX11_153 gk_59 rfl rfl (Nat.le_of_ble_eq_true rfl) (by omega) (Nat.le_of_ble_eq_true rfl) rfl d_M_product_6) (fun q2 => ?_)
  refine S.of1 (pc2 := 10) (L2 := [some (.ref 59), some (.int q1.1), some (.int q2), none]) (fun Q => g_istore_n d_M_product_9 (Nat.le_of_ble_eq_true rfl) rfl) ?_
  exact S.wk (L2 := [some (.ref 59), some (.int q1.1), some (.int q2), none]) (And.intro rfl (And.intro rfl (And.intro rfl trivial))) (s_M_product_L10 D hD kone hkone d hd gfu q1.1 q2 q1.2)
def f_M_sums_j73 (kone : gS → Option (Int32 × gS)) (k5 : Int32 → gS → Option (Int32 × gS)) (s0 : Int32) (σ : gS) : Option (Int32 × gS) :=
  k5 s0 σ
theorem s_M_sums_j73 (D : Nat) (hD : 2 ≤ D) (kone : gS → Option (Int32 × gS)) (hkone : ∀ (d : Nat) (_ : D ≤ d) (σ : gS), C wI d m_M_one [.ref 59] σ (kone σ)) (d : Nat) (hd : D + 2 ≤ d) (k5 : Int32 → gS → Option (Int32 × gS)) (hk5 : ∀ (v1 : Int32) (τ : gS), S wI m_M_sums d 5 [some (.ref 59), some (.int v1), none, none] [] τ (k5 v1 τ)) (s0 : Int32) (σ : gS) : S wI m_M_sums d 73 [some (.ref 59), none, none, none] [.int s0] σ (f_M_sums_j73 kone k5 s0 σ) := by
  unfold f_M_sums_j73
  refine S.of1 (pc2 := 74) (L2 := [some (.ref 59), some (.int s0), none, none]) (fun Q => g_istore_n d_M_sums_73 (Nat.le_of_ble_eq_true rfl) rfl) ?_
  refine S.of1 (pc2 := 5) (fun Q => g_goto d_M_sums_74 rfl) ?_
  exact S.wk (L2 := [some (.ref 59), some (.int s0), none, none]) (And.intro rfl (And.intro rfl trivial)) (hk5 s0 σ)
def f_M_sums_j44 (kone : gS → Option (Int32 × gS)) (k5 : Int32 → gS → Option (Int32 × gS)) (v1 : Int32) (s0 : Int32) (σ : gS) : Option (Int32 × gS) :=
  gup (gpi σ 59 12 ((σ.1 59 12) + (1 : Int32))) fun s7 => (fo_M_product kone s7).bind fun q8 => if s0 = 0 then f_M_sums_j73 kone k5 (v1 - q8.1) q8.2 else f_M_sums_j73 kone k5 (v1 + q8.1) q8.2
theorem s_M_sums_j44 (D : Nat) (hD : 2 ≤ D) (kone : gS → Option (Int32 × gS)) (hkone : ∀ (d : Nat) (_ : D ≤ d) (σ : gS), C wI d m_M_one [.ref 59] σ (kone σ)) (d : Nat) (hd : D + 2 ≤ d) (k5 : Int32 → gS → Option (Int32 × gS)) (hk5 : ∀ (v1 : Int32) (τ : gS), S wI m_M_sums d 5 [some (.ref 59), some (.int v1), none, none] [] τ (k5 v1 τ)) (v1 : Int32) (s0 : Int32) (σ : gS) : S wI m_M_sums d 44 [some (.ref 59), some (.int v1), none, none] [.int s0] σ (f_M_sums_j44 kone k5 v1 s0 σ) := by
  unfold f_M_sums_j44
  refine S.of1 (pc2 := 45) (L2 := [some (.ref 59), some (.int v1), some (.int s0), none]) (fun Q => g_istore_n d_M_sums_44 (Nat.le_of_ble_eq_true rfl) rfl) ?_
  refine S.of1 (pc2 := 46) (fun Q => g_aload_n d_M_sums_45 rfl) ?_
  refine S.of1 (pc2 := 47) (fun Q => g_dup d_M_sums_46 rfl) ?_
  refine S.of1 (pc2 := 50) (fun Q => g_geti fl_RX11_141 gc_59_12 d_M_sums_47) ?_
  refine S.of1 (pc2 := 51) (fun Q => g_iconst (v := (1 : Int32)) d_M_sums_50 (by decide)) ?_
  refine S.of1 (pc2 := 52) (fun Q => g_iadd d_M_sums_51) ?_
  refine S.of1 (pc2 := 55) (fun Q => g_puti fl_RX11_141 gc_59_12 rfl rfl d_M_sums_52) ?_
  refine S.gup (fun s7 => ?_)
  refine S.of1 (pc2 := 56) (fun Q => g_aload_n d_M_sums_55 rfl) ?_
  refine S.call_wI (pc3 := 59) rfl (co_M_product D hD kone hkone (d - 1) (by omega) s7) (fun Q => g_callV (M2 := m_M_product) (vs := []) (st := []) lv_RX11_169 gk_59 rfl rfl (Nat.le_of_ble_eq_true rfl) (by omega) (Nat.le_of_ble_eq_true rfl) rfl d_M_sums_56) (fun q8 => ?_)
  refine S.of1 (pc2 := 60) (L2 := [some (.ref 59), some (.int v1), some (.int s0), some (.int q8.1)]) (fun Q => g_istore_n d_M_sums_59 (Nat.le_of_ble_eq_true rfl) rfl) ?_
  refine S.of1 (pc2 := 61) (fun Q => g_iload_n d_M_sums_60 rfl) ?_
  refine S.br (c := s0 = 0) (t := 70) (e := 64) (fun Q kt kf => g_if_eq d_M_sums_61 rfl kt kf) (fun h9 => ?_) (fun h9 => ?_)
  · refine S.of1 (pc2 := 71) (fun Q => g_iload_n d_M_sums_70 rfl) ?_
    refine S.of1 (pc2 := 72) (fun Q => g_iload_n d_M_sums_71 rfl) ?_
    refine S.of1 (pc2 := 73) (fun Q => g_isub d_M_sums_72) ?_
    exact S.wk (L2 := [some (.ref 59), none, none, none]) (And.intro rfl trivial) (s_M_sums_j73 D hD kone hkone d hd k5 hk5 (v1 - q8.1) q8.2)
  · refine S.of1 (pc2 := 65) (fun Q => g_iload_n d_M_sums_64 rfl) ?_
    refine S.of1 (pc2 := 66) (fun Q => g_iload_n d_M_sums_65 rfl) ?_
    refine S.of1 (pc2 := 67) (fun Q => g_iadd d_M_sums_66) ?_
    refine S.of1 (pc2 := 73) (fun Q => g_goto d_M_sums_67 rfl) ?_
    exact S.wk (L2 := [some (.ref 59), none, none, none]) (And.intro rfl trivial) (s_M_sums_j73 D hD kone hkone d hd k5 hk5 (v1 + q8.1) q8.2)
def f_M_sums_j30 (kone : gS → Option (Int32 × gS)) (k5 : Int32 → gS → Option (Int32 × gS)) (v1 : Int32) (σ : gS) : Option (Int32 × gS) :=
  (f_M_byteAt σ).bind fun q5 => if q5 = (43 : Int32) then f_M_sums_j44 kone k5 v1 (1 : Int32) σ else f_M_sums_j44 kone k5 v1 (0 : Int32) σ
theorem s_M_sums_j30 (D : Nat) (hD : 2 ≤ D) (kone : gS → Option (Int32 × gS)) (hkone : ∀ (d : Nat) (_ : D ≤ d) (σ : gS), C wI d m_M_one [.ref 59] σ (kone σ)) (d : Nat) (hd : D + 2 ≤ d) (k5 : Int32 → gS → Option (Int32 × gS)) (hk5 : ∀ (v1 : Int32) (τ : gS), S wI m_M_sums d 5 [some (.ref 59), some (.int v1), none, none] [] τ (k5 v1 τ)) (v1 : Int32) (σ : gS) : S wI m_M_sums d 30 [some (.ref 59), some (.int v1), none, none] [] σ (f_M_sums_j30 kone k5 v1 σ) := by
  unfold f_M_sums_j30
  refine S.of1 (pc2 := 31) (fun Q => g_aload_n d_M_sums_30 rfl) ?_
  refine S.call_rI (pc3 := 34) rfl (c_M_byteAt (d - 1) (by omega) σ) (fun Q => g_callV (M2 := m_M_byteAt) (vs := []) (st := []) lv_RX11_153 gk_59 rfl rfl (Nat.le_of_ble_eq_true rfl) (by omega) (Nat.le_of_ble_eq_true rfl) rfl d_M_sums_31) (fun q5 => ?_)
  refine S.of1 (pc2 := 36) (fun Q => g_bipush (v := (43 : Int32)) d_M_sums_34 (by decide)) ?_
  refine S.br (c := q5 = (43 : Int32)) (t := 39) (e := 43) (fun Q kt kf => g_icmp_ne d_M_sums_36 rfl kf kt) (fun h6 => ?_) (fun h6 => ?_)
  · refine S.of1 (pc2 := 40) (fun Q => g_iconst (v := (1 : Int32)) d_M_sums_39 (by decide)) ?_
    refine S.of1 (pc2 := 44) (fun Q => g_goto d_M_sums_40 rfl) ?_
    exact S.wk (L2 := [some (.ref 59), some (.int v1), none, none]) (And.intro rfl (And.intro rfl trivial)) (s_M_sums_j44 D hD kone hkone d hd k5 hk5 v1 (1 : Int32) σ)
  · refine S.of1 (pc2 := 44) (fun Q => g_iconst (v := (0 : Int32)) d_M_sums_43 (by decide)) ?_
    exact S.wk (L2 := [some (.ref 59), some (.int v1), none, none]) (And.intro rfl (And.intro rfl trivial)) (s_M_sums_j44 D hD kone hkone d hd k5 hk5 v1 (0 : Int32) σ)
def f_M_sums_L5 (kone : gS → Option (Int32 × gS)) : Nat → Int32 → gS → Option (Int32 × gS)
  | 0, _, _ => none
  | n + 1, v1, σ =>
  if 0 ≤ (σ.1 59 14) then some (v1, σ) else (f_M_byteAt σ).bind fun q3 => if q3 = (43 : Int32) then f_M_sums_j30 kone (fun v1 σ => f_M_sums_L5 kone n v1 σ) v1 σ else (f_M_byteAt σ).bind fun q10 => if q10 = (45 : Int32) then f_M_sums_j30 kone (fun v1 σ => f_M_sums_L5 kone n v1 σ) v1 σ else some (v1, σ)
theorem s_M_sums_L5 (D : Nat) (hD : 2 ≤ D) (kone : gS → Option (Int32 × gS)) (hkone : ∀ (d : Nat) (_ : D ≤ d) (σ : gS), C wI d m_M_one [.ref 59] σ (kone σ)) (d : Nat) (hd : D + 2 ≤ d) : ∀ (n : Nat) (v1 : Int32) (σ : gS), S wI m_M_sums d 5 [some (.ref 59), some (.int v1), none, none] [] σ (f_M_sums_L5 kone n v1 σ) := by
  intro n
  induction n with
  | zero =>
    intros
    unfold f_M_sums_L5
    exact S.no
  | succ n ih =>
    intro v1 σ
    unfold f_M_sums_L5
    refine S.of1 (pc2 := 6) (fun Q => g_aload_n d_M_sums_5 rfl) ?_
    refine S.of1 (pc2 := 9) (fun Q => g_geti fl_RX11_150 gc_59_14 d_M_sums_6) ?_
    refine S.br (c := 0 ≤ (σ.1 59 14)) (t := 77) (e := 12) (fun Q kt kf => g_if_ge d_M_sums_9 rfl kt kf) (fun h2 => ?_) (fun h2 => ?_)
    · refine S.of1 (pc2 := 78) (fun Q => g_iload_n d_M_sums_77 rfl) ?_
      exact S.ret (fun Q hq => g_iret rfl d_M_sums_78 hq)
    · refine S.of1 (pc2 := 13) (fun Q => g_aload_n d_M_sums_12 rfl) ?_
      refine S.call_rI (pc3 := 16) rfl (c_M_byteAt (d - 1) (by omega) σ) (fun Q => g_callV (M2 := m_M_byteAt) (vs := []) (st := []) lv_RX11_153 gk_59 rfl rfl (Nat.le_of_ble_eq_true rfl) (by omega) (Nat.le_of_ble_eq_true rfl) rfl d_M_sums_13) (fun q3 => ?_)
      refine S.of1 (pc2 := 18) (fun Q => g_bipush (v := (43 : Int32)) d_M_sums_16 (by decide)) ?_
      refine S.br (c := q3 = (43 : Int32)) (t := 30) (e := 21) (fun Q kt kf => g_icmp_eq d_M_sums_18 rfl kt kf) (fun h4 => ?_) (fun h4 => ?_)
      · exact S.wk (L2 := [some (.ref 59), some (.int v1), none, none]) (And.intro rfl (And.intro rfl trivial)) (s_M_sums_j30 D hD kone hkone d hd (fun v1 σ => f_M_sums_L5 kone n v1 σ) (fun v1 τ => ih v1 τ) v1 σ)
      · refine S.of1 (pc2 := 22) (fun Q => g_aload_n d_M_sums_21 rfl) ?_
        refine S.call_rI (pc3 := 25) rfl (c_M_byteAt (d - 1) (by omega) σ) (fun Q => g_callV (M2 := m_M_byteAt) (vs := []) (st := []) lv_RX11_153 gk_59 rfl rfl (Nat.le_of_ble_eq_true rfl) (by omega) (Nat.le_of_ble_eq_true rfl) rfl d_M_sums_22) (fun q10 => ?_)
        refine S.of1 (pc2 := 27) (fun Q => g_bipush (v := (45 : Int32)) d_M_sums_25 (by decide)) ?_
        refine S.br (c := q10 = (45 : Int32)) (t := 30) (e := 77) (fun Q kt kf => g_icmp_ne d_M_sums_27 rfl kf kt) (fun h11 => ?_) (fun h11 => ?_)
        · exact S.wk (L2 := [some (.ref 59), some (.int v1), none, none]) (And.intro rfl (And.intro rfl trivial)) (s_M_sums_j30 D hD kone hkone d hd (fun v1 σ => f_M_sums_L5 kone n v1 σ) (fun v1 τ => ih v1 τ) v1 σ)
        · refine S.of1 (pc2 := 78) (fun Q => g_iload_n d_M_sums_77 rfl) ?_
          exact S.ret (fun Q hq => g_iret rfl d_M_sums_78 hq)
def fo_M_sums (kone : gS → Option (Int32 × gS)) (σ : gS) : Option (Int32 × gS) :=
  (fo_M_product kone σ).bind fun q1 => f_M_sums_L5 kone gfu q1.1 q1.2
theorem co_M_sums (D : Nat) (hD : 2 ≤ D) (kone : gS → Option (Int32 × gS)) (hkone : ∀ (d : Nat) (_ : D ≤ d) (σ : gS), C wI d m_M_one [.ref 59] σ (kone σ)) (d : Nat) (hd : D + 2 ≤ d) (σ : gS) : C wI d m_M_sums [.ref 59] σ (fo_M_sums kone σ) := by
  unfold fo_M_sums
  refine C.of (by decide +kernel) (Nat.le_of_ble_eq_true rfl) (L := [some (.ref 59), none, none, none]) rfl ?_
  refine S.of1 (pc2 := 1) (fun Q => g_aload_n d_M_sums_0 rfl) ?_
  refine S.call_wI (pc3 := 4) rfl (co_M_product D hD kone hkone (d - 1) (by omega) σ) (fun Q => g_callV (M2 := m_M_product) (vs := []) (st := []) lv_RX11_169 gk_59 rfl rfl (Nat.le_of_ble_eq_true rfl) (by omega) (Nat.le_of_ble_eq_true rfl) rfl d_M_sums_1) (fun q1 => ?_)
  refine S.of1 (pc2 := 5) (L2 := [some (.ref 59), some (.int q1.1), none, none]) (fun Q => g_istore_n d_M_sums_4 (Nat.le_of_ble_eq_true rfl) rfl) ?_
  exact S.wk (L2 := [some (.ref 59), some (.int q1.1), none, none]) (And.intro rfl (And.intro rfl trivial)) (s_M_sums_L5 D hD kone hkone d hd gfu q1.1 q1.2)
def f_M_compared_j85 (kone : gS → Option (Int32 × gS)) (σ : gS) : Option (Int32 × gS) :=
  some ((1 : Int32), σ)
theorem s_M_compared_j85 (D : Nat) (hD : 2 ≤ D) (kone : gS → Option (Int32 × gS)) (hkone : ∀ (d : Nat) (_ : D ≤ d) (σ : gS), C wI d m_M_one [.ref 59] σ (kone σ)) (d : Nat) (hd : D + 3 ≤ d) (σ : gS) : S wI m_M_compared d 85 [none, none, none, none] [] σ (f_M_compared_j85 kone σ) := by
  unfold f_M_compared_j85
  refine S.of1 (pc2 := 86) (fun Q => g_iconst (v := (1 : Int32)) d_M_compared_85 (by decide)) ?_
  refine S.of1 (pc2 := 90) (fun Q => g_goto d_M_compared_86 rfl) ?_
  exact S.ret (fun Q hq => g_iret rfl d_M_compared_90 hq)
def f_M_compared_j37 (kone : gS → Option (Int32 × gS)) (v1 : Int32) (v2 : Int32) (σ : gS) : Option (Int32 × gS) :=
  gup (gpi σ 59 12 ((σ.1 59 12) + (1 : Int32))) fun s5 => (fo_M_sums kone s5).bind fun q6 => if v2 = (60 : Int32) then if q6.1 ≤ v1 then some ((0 : Int32), q6.2) else f_M_compared_j85 kone q6.2 else if v2 = (61 : Int32) then if v1 = q6.1 then f_M_compared_j85 kone q6.2 else some ((0 : Int32), q6.2) else if v1 ≤ q6.1 then some ((0 : Int32), q6.2) else f_M_compared_j85 kone q6.2
theorem s_M_compared_j37 (D : Nat) (hD : 2 ≤ D) (kone : gS → Option (Int32 × gS)) (hkone : ∀ (d : Nat) (_ : D ≤ d) (σ : gS), C wI d m_M_one [.ref 59] σ (kone σ)) (d : Nat) (hd : D + 3 ≤ d) (v1 : Int32) (v2 : Int32) (σ : gS) : S wI m_M_compared d 37 [some (.ref 59), some (.int v1), some (.int v2), none] [] σ (f_M_compared_j37 kone v1 v2 σ) := by
  unfold f_M_compared_j37
  refine S.of1 (pc2 := 38) (fun Q => g_aload_n d_M_compared_37 rfl) ?_
  refine S.of1 (pc2 := 39) (fun Q => g_dup d_M_compared_38 rfl) ?_
  refine S.of1 (pc2 := 42) (fun Q => g_geti fl_RX11_141 gc_59_12 d_M_compared_39) ?_
  refine S.of1 (pc2 := 43) (fun Q => g_iconst (v := (1 : Int32)) d_M_compared_42 (by decide)) ?_
  refine S.of1 (pc2 := 44) (fun Q => g_iadd d_M_compared_43) ?_
  refine S.of1 (pc2 := 47) (fun Q => g_puti fl_RX11_141 gc_59_12 rfl rfl d_M_compared_44) ?_
  refine S.gup (fun s5 => ?_)
  refine S.of1 (pc2 := 48) (fun Q => g_aload_n d_M_compared_47 rfl) ?_
  refine S.call_wI (pc3 := 51) rfl (co_M_sums D hD kone hkone (d - 1) (by omega) s5) (fun Q => g_callV (M2 := m_M_sums) (vs := []) (st := []) lv_RX11_166 gk_59 rfl rfl (Nat.le_of_ble_eq_true rfl) (by omega) (Nat.le_of_ble_eq_true rfl) rfl d_M_compared_48) (fun q6 => ?_)
  refine S.of1 (pc2 := 52) (L2 := [some (.ref 59), some (.int v1), some (.int v2), some (.int q6.1)]) (fun Q => g_istore_n d_M_compared_51 (Nat.le_of_ble_eq_true rfl) rfl) ?_
  refine S.of1 (pc2 := 53) (fun Q => g_iload_n d_M_compared_52 rfl) ?_
  refine S.of1 (pc2 := 55) (fun Q => g_bipush (v := (60 : Int32)) d_M_compared_53 (by decide)) ?_
  refine S.br (c := v2 = (60 : Int32)) (t := 58) (e := 66) (fun Q kt kf => g_icmp_ne d_M_compared_55 rfl kf kt) (fun h7 => ?_) (fun h7 => ?_)
  · refine S.of1 (pc2 := 59) (fun Q => g_iload_n d_M_compared_58 rfl) ?_
    refine S.of1 (pc2 := 60) (fun Q => g_iload_n d_M_compared_59 rfl) ?_
    refine S.br (c := q6.1 ≤ v1) (t := 89) (e := 63) (fun Q kt kf => g_icmp_ge d_M_compared_60 rfl kt kf) (fun h8 => ?_) (fun h8 => ?_)
    · refine S.of1 (pc2 := 90) (fun Q => g_iconst (v := (0 : Int32)) d_M_compared_89 (by decide)) ?_
      exact S.ret (fun Q hq => g_iret rfl d_M_compared_90 hq)
    · refine S.of1 (pc2 := 85) (fun Q => g_goto d_M_compared_63 rfl) ?_
      exact S.wk (L2 := [none, none, none, none]) trivial (s_M_compared_j85 D hD kone hkone d hd q6.2)
  · refine S.of1 (pc2 := 67) (fun Q => g_iload_n d_M_compared_66 rfl) ?_
    refine S.of1 (pc2 := 69) (fun Q => g_bipush (v := (61 : Int32)) d_M_compared_67 (by decide)) ?_
    refine S.br (c := v2 = (61 : Int32)) (t := 72) (e := 80) (fun Q kt kf => g_icmp_ne d_M_compared_69 rfl kf kt) (fun h9 => ?_) (fun h9 => ?_)
    · refine S.of1 (pc2 := 73) (fun Q => g_iload_n d_M_compared_72 rfl) ?_
      refine S.of1 (pc2 := 74) (fun Q => g_iload_n d_M_compared_73 rfl) ?_
      refine S.br (c := v1 = q6.1) (t := 77) (e := 89) (fun Q kt kf => g_icmp_ne d_M_compared_74 rfl kf kt) (fun h10 => ?_) (fun h10 => ?_)
      · refine S.of1 (pc2 := 85) (fun Q => g_goto d_M_compared_77 rfl) ?_
        exact S.wk (L2 := [none, none, none, none]) trivial (s_M_compared_j85 D hD kone hkone d hd q6.2)
      · refine S.of1 (pc2 := 90) (fun Q => g_iconst (v := (0 : Int32)) d_M_compared_89 (by decide)) ?_
        exact S.ret (fun Q hq => g_iret rfl d_M_compared_90 hq)
    · refine S.of1 (pc2 := 81) (fun Q => g_iload_n d_M_compared_80 rfl) ?_
      refine S.of1 (pc2 := 82) (fun Q => g_iload_n d_M_compared_81 rfl) ?_
      refine S.br (c := v1 ≤ q6.1) (t := 89) (e := 85) (fun Q kt kf => g_icmp_le d_M_compared_82 rfl kt kf) (fun h11 => ?_) (fun h11 => ?_)
      · refine S.of1 (pc2 := 90) (fun Q => g_iconst (v := (0 : Int32)) d_M_compared_89 (by decide)) ?_
        exact S.ret (fun Q hq => g_iret rfl d_M_compared_90 hq)
      · exact S.wk (L2 := [none, none, none, none]) trivial (s_M_compared_j85 D hD kone hkone d hd q6.2)
def fo_M_compared (kone : gS → Option (Int32 × gS)) (σ : gS) : Option (Int32 × gS) :=
  (fo_M_sums kone σ).bind fun q1 => (f_M_byteAt q1.2).bind fun q2 => if 0 ≤ (q1.2.1 59 14) then some (q1.1, q1.2) else if q2 = (60 : Int32) then f_M_compared_j37 kone q1.1 q2 q1.2 else if q2 = (61 : Int32) then f_M_compared_j37 kone q1.1 q2 q1.2 else if q2 = (62 : Int32) then f_M_compared_j37 kone q1.1 q2 q1.2 else some (q1.1, q1.2)
theorem co_M_compared (D : Nat) (hD : 2 ≤ D) (kone : gS → Option (Int32 × gS)) (hkone : ∀ (d : Nat) (_ : D ≤ d) (σ : gS), C wI d m_M_one [.ref 59] σ (kone σ)) (d : Nat) (hd : D + 3 ≤ d) (σ : gS) : C wI d m_M_compared [.ref 59] σ (fo_M_compared kone σ) := by
  unfold fo_M_compared
  refine C.of (by decide +kernel) (Nat.le_of_ble_eq_true rfl) (L := [some (.ref 59), none, none, none]) rfl ?_
  refine S.of1 (pc2 := 1) (fun Q => g_aload_n d_M_compared_0 rfl) ?_
  refine S.call_wI (pc3 := 4) rfl (co_M_sums D hD kone hkone (d - 1) (by omega) σ) (fun Q => g_callV (M2 := m_M_sums) (vs := []) (st := []) lv_RX11_166 gk_59 rfl rfl (Nat.le_of_ble_eq_true rfl) (by omega) (Nat.le_of_ble_eq_true rfl) rfl d_M_compared_1) (fun q1 => ?_)
  refine S.of1 (pc2 := 5) (L2 := [some (.ref 59), some (.int q1.1), none, none]) (fun Q => g_istore_n d_M_compared_4 (Nat.le_of_ble_eq_true rfl) rfl) ?_
  refine S.of1 (pc2 := 6) (fun Q => g_aload_n d_M_compared_5 rfl) ?_
  refine S.call_rI (pc3 := 9) rfl (c_M_byteAt (d - 1) (by omega) q1.2) (fun Q => g_callV (M2 := m_M_byteAt) (vs := []) (st := []) lv_RX11_153 gk_59 rfl rfl (Nat.le_of_ble_eq_true rfl) (by omega) (Nat.le_of_ble_eq_true rfl) rfl d_M_compared_6) (fun q2 => ?_)
  refine S.of1 (pc2 := 10) (L2 := [some (.ref 59), some (.int q1.1), some (.int q2), none]) (fun Q => g_istore_n d_M_compared_9 (Nat.le_of_ble_eq_true rfl) rfl) ?_
  refine S.of1 (pc2 := 11) (fun Q => g_aload_n d_M_compared_10 rfl) ?_
  refine S.of1 (pc2 := 14) (fun Q => g_geti fl_RX11_150 gc_59_14 d_M_compared_11) ?_
  refine S.br (c := 0 ≤ (q1.2.1 59 14)) (t := 35) (e := 17) (fun Q kt kf => g_if_ge d_M_compared_14 rfl kt kf) (fun h3 => ?_) (fun h3 => ?_)
  · refine S.of1 (pc2 := 36) (fun Q => g_iload_n d_M_compared_35 rfl) ?_
    exact S.ret (fun Q hq => g_iret rfl d_M_compared_36 hq)
  · refine S.of1 (pc2 := 18) (fun Q => g_iload_n d_M_compared_17 rfl) ?_
    refine S.of1 (pc2 := 20) (fun Q => g_bipush (v := (60 : Int32)) d_M_compared_18 (by decide)) ?_
    refine S.br (c := q2 = (60 : Int32)) (t := 37) (e := 23) (fun Q kt kf => g_icmp_eq d_M_compared_20 rfl kt kf) (fun h4 => ?_) (fun h4 => ?_)
    · exact S.wk (L2 := [some (.ref 59), some (.int q1.1), some (.int q2), none]) (And.intro rfl (And.intro rfl (And.intro rfl trivial))) (s_M_compared_j37 D hD kone hkone d hd q1.1 q2 q1.2)
    · refine S.of1 (pc2 := 24) (fun Q => g_iload_n d_M_compared_23 rfl) ?_
      refine S.of1 (pc2 := 26) (fun Q => g_bipush (v := (61 : Int32)) d_M_compared_24 (by decide)) ?_
      refine S.br (c := q2 = (61 : Int32)) (t := 37) (e := 29) (fun Q kt kf => g_icmp_eq d_M_compared_26 rfl kt kf) (fun h12 => ?_) (fun h12 => ?_)
      · exact S.wk (L2 := [some (.ref 59), some (.int q1.1), some (.int q2), none]) (And.intro rfl (And.intro rfl (And.intro rfl trivial))) (s_M_compared_j37 D hD kone hkone d hd q1.1 q2 q1.2)
      · refine S.of1 (pc2 := 30) (fun Q => g_iload_n d_M_compared_29 rfl) ?_
        refine S.of1 (pc2 := 32) (fun Q => g_bipush (v := (62 : Int32)) d_M_compared_30 (by decide)) ?_
        refine S.br (c := q2 = (62 : Int32)) (t := 37) (e := 35) (fun Q kt kf => g_icmp_eq d_M_compared_32 rfl kt kf) (fun h13 => ?_) (fun h13 => ?_)
        · exact S.wk (L2 := [some (.ref 59), some (.int q1.1), some (.int q2), none]) (And.intro rfl (And.intro rfl (And.intro rfl trivial))) (s_M_compared_j37 D hD kone hkone d hd q1.1 q2 q1.2)
        · refine S.of1 (pc2 := 36) (fun Q => g_iload_n d_M_compared_35 rfl) ?_
          exact S.ret (fun Q hq => g_iret rfl d_M_compared_36 hq)
def f_M_both_j32 (kone : gS → Option (Int32 × gS)) (k5 : Int32 → gS → Option (Int32 × gS)) (s0 : Int32) (σ : gS) : Option (Int32 × gS) :=
  k5 s0 σ
theorem s_M_both_j32 (D : Nat) (hD : 2 ≤ D) (kone : gS → Option (Int32 × gS)) (hkone : ∀ (d : Nat) (_ : D ≤ d) (σ : gS), C wI d m_M_one [.ref 59] σ (kone σ)) (d : Nat) (hd : D + 4 ≤ d) (k5 : Int32 → gS → Option (Int32 × gS)) (hk5 : ∀ (v1 : Int32) (τ : gS), S wI m_M_both d 5 [some (.ref 59), some (.int v1), none] [] τ (k5 v1 τ)) (s0 : Int32) (σ : gS) : S wI m_M_both d 32 [some (.ref 59), none, none] [.int s0] σ (f_M_both_j32 kone k5 s0 σ) := by
  unfold f_M_both_j32
  refine S.of1 (pc2 := 33) (L2 := [some (.ref 59), some (.int s0), none]) (fun Q => g_istore_n d_M_both_32 (Nat.le_of_ble_eq_true rfl) rfl) ?_
  refine S.of1 (pc2 := 5) (fun Q => g_goto d_M_both_33 rfl) ?_
  exact S.wk (L2 := [some (.ref 59), some (.int s0), none]) (And.intro rfl (And.intro rfl trivial)) (hk5 s0 σ)
def f_M_both_j31 (kone : gS → Option (Int32 × gS)) (k5 : Int32 → gS → Option (Int32 × gS)) (σ : gS) : Option (Int32 × gS) :=
  f_M_both_j32 kone k5 (0 : Int32) σ
theorem s_M_both_j31 (D : Nat) (hD : 2 ≤ D) (kone : gS → Option (Int32 × gS)) (hkone : ∀ (d : Nat) (_ : D ≤ d) (σ : gS), C wI d m_M_one [.ref 59] σ (kone σ)) (d : Nat) (hd : D + 4 ≤ d) (k5 : Int32 → gS → Option (Int32 × gS)) (hk5 : ∀ (v1 : Int32) (τ : gS), S wI m_M_both d 5 [some (.ref 59), some (.int v1), none] [] τ (k5 v1 τ)) (σ : gS) : S wI m_M_both d 31 [some (.ref 59), none, none] [] σ (f_M_both_j31 kone k5 σ) := by
  unfold f_M_both_j31
  refine S.of1 (pc2 := 32) (fun Q => g_iconst (v := (0 : Int32)) d_M_both_31 (by decide)) ?_
  exact S.wk (L2 := [some (.ref 59), none, none]) (And.intro rfl trivial) (s_M_both_j32 D hD kone hkone d hd k5 hk5 (0 : Int32) σ)
def f_M_both_L5 (kone : gS → Option (Int32 × gS)) : Nat → Int32 → gS → Option (Int32 × gS)
  | 0, _, _ => none
  | n + 1, v1, σ =>
  (f_M_takes (38 : Int32) σ).bind fun q2 => if q2.1 = 0 then some (v1, q2.2) else (fo_M_compared kone q2.2).bind fun q4 => if v1 = 0 then f_M_both_j31 kone (fun v1 σ => f_M_both_L5 kone n v1 σ) q4.2 else if q4.1 = 0 then f_M_both_j31 kone (fun v1 σ => f_M_both_L5 kone n v1 σ) q4.2 else f_M_both_j32 kone (fun v1 σ => f_M_both_L5 kone n v1 σ) (1 : Int32) q4.2
theorem s_M_both_L5 (D : Nat) (hD : 2 ≤ D) (kone : gS → Option (Int32 × gS)) (hkone : ∀ (d : Nat) (_ : D ≤ d) (σ : gS), C wI d m_M_one [.ref 59] σ (kone σ)) (d : Nat) (hd : D + 4 ≤ d) : ∀ (n : Nat) (v1 : Int32) (σ : gS), S wI m_M_both d 5 [some (.ref 59), some (.int v1), none] [] σ (f_M_both_L5 kone n v1 σ) := by
  intro n
  induction n with
  | zero =>
    intros
    unfold f_M_both_L5
    exact S.no
  | succ n ih =>
    intro v1 σ
    unfold f_M_both_L5
    refine S.of1 (pc2 := 6) (fun Q => g_aload_n d_M_both_5 rfl) ?_
    refine S.of1 (pc2 := 8) (fun Q => g_bipush (v := (38 : Int32)) d_M_both_6 (by decide)) ?_
    refine S.call_wI (pc3 := 11) rfl (c_M_takes (d - 1) (by omega) (38 : Int32) σ) (fun Q => g_callV (M2 := m_M_takes) (vs := [.int (38 : Int32)]) (st := []) lv_RX11_160 gk_59 rfl rfl (Nat.le_of_ble_eq_true rfl) (by omega) (Nat.le_of_ble_eq_true rfl) rfl d_M_both_8) (fun q2 => ?_)
    refine S.br (c := q2.1 = 0) (t := 36) (e := 14) (fun Q kt kf => g_if_eq d_M_both_11 rfl kt kf) (fun h3 => ?_) (fun h3 => ?_)
    · refine S.of1 (pc2 := 37) (fun Q => g_iload_n d_M_both_36 rfl) ?_
      exact S.ret (fun Q hq => g_iret rfl d_M_both_37 hq)
    · refine S.of1 (pc2 := 15) (fun Q => g_aload_n d_M_both_14 rfl) ?_
      refine S.call_wI (pc3 := 18) rfl (co_M_compared D hD kone hkone (d - 1) (by omega) q2.2) (fun Q => g_callV (M2 := m_M_compared) (vs := []) (st := []) lv_RX11_163 gk_59 rfl rfl (Nat.le_of_ble_eq_true rfl) (by omega) (Nat.le_of_ble_eq_true rfl) rfl d_M_both_15) (fun q4 => ?_)
      refine S.of1 (pc2 := 19) (L2 := [some (.ref 59), some (.int v1), some (.int q4.1)]) (fun Q => g_istore_n d_M_both_18 (Nat.le_of_ble_eq_true rfl) rfl) ?_
      refine S.of1 (pc2 := 20) (fun Q => g_iload_n d_M_both_19 rfl) ?_
      refine S.br (c := v1 = 0) (t := 31) (e := 23) (fun Q kt kf => g_if_eq d_M_both_20 rfl kt kf) (fun h5 => ?_) (fun h5 => ?_)
      · exact S.wk (L2 := [some (.ref 59), none, none]) (And.intro rfl trivial) (s_M_both_j31 D hD kone hkone d hd (fun v1 σ => f_M_both_L5 kone n v1 σ) (fun v1 τ => ih v1 τ) q4.2)
      · refine S.of1 (pc2 := 24) (fun Q => g_iload_n d_M_both_23 rfl) ?_
        refine S.br (c := q4.1 = 0) (t := 31) (e := 27) (fun Q kt kf => g_if_eq d_M_both_24 rfl kt kf) (fun h6 => ?_) (fun h6 => ?_)
        · exact S.wk (L2 := [some (.ref 59), none, none]) (And.intro rfl trivial) (s_M_both_j31 D hD kone hkone d hd (fun v1 σ => f_M_both_L5 kone n v1 σ) (fun v1 τ => ih v1 τ) q4.2)
        · refine S.of1 (pc2 := 28) (fun Q => g_iconst (v := (1 : Int32)) d_M_both_27 (by decide)) ?_
          refine S.of1 (pc2 := 32) (fun Q => g_goto d_M_both_28 rfl) ?_
          exact S.wk (L2 := [some (.ref 59), none, none]) (And.intro rfl trivial) (s_M_both_j32 D hD kone hkone d hd (fun v1 σ => f_M_both_L5 kone n v1 σ) (fun v1 τ => ih v1 τ) (1 : Int32) q4.2)
def fo_M_both (kone : gS → Option (Int32 × gS)) (σ : gS) : Option (Int32 × gS) :=
  (fo_M_compared kone σ).bind fun q1 => f_M_both_L5 kone gfu q1.1 q1.2
theorem co_M_both (D : Nat) (hD : 2 ≤ D) (kone : gS → Option (Int32 × gS)) (hkone : ∀ (d : Nat) (_ : D ≤ d) (σ : gS), C wI d m_M_one [.ref 59] σ (kone σ)) (d : Nat) (hd : D + 4 ≤ d) (σ : gS) : C wI d m_M_both [.ref 59] σ (fo_M_both kone σ) := by
  unfold fo_M_both
  refine C.of (by decide +kernel) (Nat.le_of_ble_eq_true rfl) (L := [some (.ref 59), none, none]) rfl ?_
  refine S.of1 (pc2 := 1) (fun Q => g_aload_n d_M_both_0 rfl) ?_
  refine S.call_wI (pc3 := 4) rfl (co_M_compared D hD kone hkone (d - 1) (by omega) σ) (fun Q => g_callV (M2 := m_M_compared) (vs := []) (st := []) lv_RX11_163 gk_59 rfl rfl (Nat.le_of_ble_eq_true rfl) (by omega) (Nat.le_of_ble_eq_true rfl) rfl d_M_both_1) (fun q1 => ?_)
  refine S.of1 (pc2 := 5) (L2 := [some (.ref 59), some (.int q1.1), none]) (fun Q => g_istore_n d_M_both_4 (Nat.le_of_ble_eq_true rfl) rfl) ?_
  exact S.wk (L2 := [some (.ref 59), some (.int q1.1), none]) (And.intro rfl (And.intro rfl trivial)) (s_M_both_L5 D hD kone hkone d hd gfu q1.1 q1.2)
def f_M_either_j32 (kone : gS → Option (Int32 × gS)) (k5 : Int32 → gS → Option (Int32 × gS)) (s0 : Int32) (σ : gS) : Option (Int32 × gS) :=
  k5 s0 σ
theorem s_M_either_j32 (D : Nat) (hD : 2 ≤ D) (kone : gS → Option (Int32 × gS)) (hkone : ∀ (d : Nat) (_ : D ≤ d) (σ : gS), C wI d m_M_one [.ref 59] σ (kone σ)) (d : Nat) (hd : D + 5 ≤ d) (k5 : Int32 → gS → Option (Int32 × gS)) (hk5 : ∀ (v1 : Int32) (τ : gS), S wI m_M_either d 5 [some (.ref 59), some (.int v1), none] [] τ (k5 v1 τ)) (s0 : Int32) (σ : gS) : S wI m_M_either d 32 [some (.ref 59), none, none] [.int s0] σ (f_M_either_j32 kone k5 s0 σ) := by
  unfold f_M_either_j32
  refine S.of1 (pc2 := 33) (L2 := [some (.ref 59), some (.int s0), none]) (fun Q => g_istore_n d_M_either_32 (Nat.le_of_ble_eq_true rfl) rfl) ?_
  refine S.of1 (pc2 := 5) (fun Q => g_goto d_M_either_33 rfl) ?_
  exact S.wk (L2 := [some (.ref 59), some (.int s0), none]) (And.intro rfl (And.intro rfl trivial)) (hk5 s0 σ)
def f_M_either_j27 (kone : gS → Option (Int32 × gS)) (k5 : Int32 → gS → Option (Int32 × gS)) (σ : gS) : Option (Int32 × gS) :=
  f_M_either_j32 kone k5 (1 : Int32) σ
theorem s_M_either_j27 (D : Nat) (hD : 2 ≤ D) (kone : gS → Option (Int32 × gS)) (hkone : ∀ (d : Nat) (_ : D ≤ d) (σ : gS), C wI d m_M_one [.ref 59] σ (kone σ)) (d : Nat) (hd : D + 5 ≤ d) (k5 : Int32 → gS → Option (Int32 × gS)) (hk5 : ∀ (v1 : Int32) (τ : gS), S wI m_M_either d 5 [some (.ref 59), some (.int v1), none] [] τ (k5 v1 τ)) (σ : gS) : S wI m_M_either d 27 [some (.ref 59), none, none] [] σ (f_M_either_j27 kone k5 σ) := by
  unfold f_M_either_j27
  refine S.of1 (pc2 := 28) (fun Q => g_iconst (v := (1 : Int32)) d_M_either_27 (by decide)) ?_
  refine S.of1 (pc2 := 32) (fun Q => g_goto d_M_either_28 rfl) ?_
  exact S.wk (L2 := [some (.ref 59), none, none]) (And.intro rfl trivial) (s_M_either_j32 D hD kone hkone d hd k5 hk5 (1 : Int32) σ)
def f_M_either_L5 (kone : gS → Option (Int32 × gS)) : Nat → Int32 → gS → Option (Int32 × gS)
  | 0, _, _ => none
  | n + 1, v1, σ =>
  (f_M_takes (124 : Int32) σ).bind fun q2 => if q2.1 = 0 then some (v1, q2.2) else (fo_M_both kone q2.2).bind fun q4 => if v1 = 0 then if q4.1 = 0 then f_M_either_j32 kone (fun v1 σ => f_M_either_L5 kone n v1 σ) (0 : Int32) q4.2 else f_M_either_j27 kone (fun v1 σ => f_M_either_L5 kone n v1 σ) q4.2 else f_M_either_j27 kone (fun v1 σ => f_M_either_L5 kone n v1 σ) q4.2
theorem s_M_either_L5 (D : Nat) (hD : 2 ≤ D) (kone : gS → Option (Int32 × gS)) (hkone : ∀ (d : Nat) (_ : D ≤ d) (σ : gS), C wI d m_M_one [.ref 59] σ (kone σ)) (d : Nat) (hd : D + 5 ≤ d) : ∀ (n : Nat) (v1 : Int32) (σ : gS), S wI m_M_either d 5 [some (.ref 59), some (.int v1), none] [] σ (f_M_either_L5 kone n v1 σ) := by
  intro n
  induction n with
  | zero =>
    intros
    unfold f_M_either_L5
    exact S.no
  | succ n ih =>
    intro v1 σ
    unfold f_M_either_L5
    refine S.of1 (pc2 := 6) (fun Q => g_aload_n d_M_either_5 rfl) ?_
    refine S.of1 (pc2 := 8) (fun Q => g_bipush (v := (124 : Int32)) d_M_either_6 (by decide)) ?_
    refine S.call_wI (pc3 := 11) rfl (c_M_takes (d - 1) (by omega) (124 : Int32) σ) (fun Q => g_callV (M2 := m_M_takes) (vs := [.int (124 : Int32)]) (st := []) lv_RX11_160 gk_59 rfl rfl (Nat.le_of_ble_eq_true rfl) (by omega) (Nat.le_of_ble_eq_true rfl) rfl d_M_either_8) (fun q2 => ?_)
    refine S.br (c := q2.1 = 0) (t := 36) (e := 14) (fun Q kt kf => g_if_eq d_M_either_11 rfl kt kf) (fun h3 => ?_) (fun h3 => ?_)
    · refine S.of1 (pc2 := 37) (fun Q => g_iload_n d_M_either_36 rfl) ?_
      exact S.ret (fun Q hq => g_iret rfl d_M_either_37 hq)
    · refine S.of1 (pc2 := 15) (fun Q => g_aload_n d_M_either_14 rfl) ?_
      refine S.call_wI (pc3 := 18) rfl (co_M_both D hD kone hkone (d - 1) (by omega) q2.2) (fun Q => g_callV (M2 := m_M_both) (vs := []) (st := []) lv_RX11_157 gk_59 rfl rfl (Nat.le_of_ble_eq_true rfl) (by omega) (Nat.le_of_ble_eq_true rfl) rfl d_M_either_15) (fun q4 => ?_)
      refine S.of1 (pc2 := 19) (L2 := [some (.ref 59), some (.int v1), some (.int q4.1)]) (fun Q => g_istore_n d_M_either_18 (Nat.le_of_ble_eq_true rfl) rfl) ?_
      refine S.of1 (pc2 := 20) (fun Q => g_iload_n d_M_either_19 rfl) ?_
      refine S.br (c := v1 = 0) (t := 23) (e := 27) (fun Q kt kf => g_if_ne d_M_either_20 rfl kf kt) (fun h5 => ?_) (fun h5 => ?_)
      · refine S.of1 (pc2 := 24) (fun Q => g_iload_n d_M_either_23 rfl) ?_
        refine S.br (c := q4.1 = 0) (t := 31) (e := 27) (fun Q kt kf => g_if_eq d_M_either_24 rfl kt kf) (fun h6 => ?_) (fun h6 => ?_)
        · refine S.of1 (pc2 := 32) (fun Q => g_iconst (v := (0 : Int32)) d_M_either_31 (by decide)) ?_
          exact S.wk (L2 := [some (.ref 59), none, none]) (And.intro rfl trivial) (s_M_either_j32 D hD kone hkone d hd (fun v1 σ => f_M_either_L5 kone n v1 σ) (fun v1 τ => ih v1 τ) (0 : Int32) q4.2)
        · exact S.wk (L2 := [some (.ref 59), none, none]) (And.intro rfl trivial) (s_M_either_j27 D hD kone hkone d hd (fun v1 σ => f_M_either_L5 kone n v1 σ) (fun v1 τ => ih v1 τ) q4.2)
      · exact S.wk (L2 := [some (.ref 59), none, none]) (And.intro rfl trivial) (s_M_either_j27 D hD kone hkone d hd (fun v1 σ => f_M_either_L5 kone n v1 σ) (fun v1 τ => ih v1 τ) q4.2)
def fo_M_either (kone : gS → Option (Int32 × gS)) (σ : gS) : Option (Int32 × gS) :=
  (fo_M_both kone σ).bind fun q1 => f_M_either_L5 kone gfu q1.1 q1.2
theorem co_M_either (D : Nat) (hD : 2 ≤ D) (kone : gS → Option (Int32 × gS)) (hkone : ∀ (d : Nat) (_ : D ≤ d) (σ : gS), C wI d m_M_one [.ref 59] σ (kone σ)) (d : Nat) (hd : D + 5 ≤ d) (σ : gS) : C wI d m_M_either [.ref 59] σ (fo_M_either kone σ) := by
  unfold fo_M_either
  refine C.of (by decide +kernel) (Nat.le_of_ble_eq_true rfl) (L := [some (.ref 59), none, none]) rfl ?_
  refine S.of1 (pc2 := 1) (fun Q => g_aload_n d_M_either_0 rfl) ?_
  refine S.call_wI (pc3 := 4) rfl (co_M_both D hD kone hkone (d - 1) (by omega) σ) (fun Q => g_callV (M2 := m_M_both) (vs := []) (st := []) lv_RX11_157 gk_59 rfl rfl (Nat.le_of_ble_eq_true rfl) (by omega) (Nat.le_of_ble_eq_true rfl) rfl d_M_either_1) (fun q1 => ?_)
  refine S.of1 (pc2 := 5) (L2 := [some (.ref 59), some (.int q1.1), none]) (fun Q => g_istore_n d_M_either_4 (Nat.le_of_ble_eq_true rfl) rfl) ?_
  exact S.wk (L2 := [some (.ref 59), some (.int q1.1), none]) (And.intro rfl (And.intro rfl trivial)) (s_M_either_L5 D hD kone hkone d hd gfu q1.1 q1.2)
def f_M_one_j104 (kone : gS → Option (Int32 × gS)) (v1 : Int32) (v2 : Int32) (σ : gS) : Option (Int32 × gS) :=
  gup (gpi σ 59 15 ((σ.1 59 15) - (1 : Int32))) fun s14 => if v1 = (40 : Int32) then some (v2, s14) else if v1 = (45 : Int32) then some ((-v2), s14) else if v2 = 0 then some ((1 : Int32), s14) else some ((0 : Int32), s14)
theorem s_M_one_j104 (D : Nat) (hD : 2 ≤ D) (kone : gS → Option (Int32 × gS)) (hkone : ∀ (d : Nat) (_ : D ≤ d) (σ : gS), C wI d m_M_one [.ref 59] σ (kone σ)) (d : Nat) (hd : D + 6 ≤ d) (v1 : Int32) (v2 : Int32) (σ : gS) : S wI m_M_one d 104 [some (.ref 59), some (.int v1), some (.int v2), none, none] [] σ (f_M_one_j104 kone v1 v2 σ) := by
  unfold f_M_one_j104
  refine S.of1 (pc2 := 105) (fun Q => g_aload_n d_M_one_104 rfl) ?_
  refine S.of1 (pc2 := 106) (fun Q => g_dup d_M_one_105 rfl) ?_
  refine S.of1 (pc2 := 109) (fun Q => g_geti fl_RX11_175 gc_59_15 d_M_one_106) ?_
  refine S.of1 (pc2 := 110) (fun Q => g_iconst (v := (1 : Int32)) d_M_one_109 (by decide)) ?_
  refine S.of1 (pc2 := 111) (fun Q => g_isub d_M_one_110) ?_
  refine S.of1 (pc2 := 114) (fun Q => g_puti fl_RX11_175 gc_59_15 rfl rfl d_M_one_111) ?_
  refine S.gup (fun s14 => ?_)
  refine S.of1 (pc2 := 115) (fun Q => g_iload_n d_M_one_114 rfl) ?_
  refine S.of1 (pc2 := 117) (fun Q => g_bipush (v := (40 : Int32)) d_M_one_115 (by decide)) ?_
  refine S.br (c := v1 = (40 : Int32)) (t := 120) (e := 124) (fun Q kt kf => g_icmp_ne d_M_one_117 rfl kf kt) (fun h15 => ?_) (fun h15 => ?_)
  · refine S.of1 (pc2 := 121) (fun Q => g_iload_n d_M_one_120 rfl) ?_
    refine S.of1 (pc2 := 144) (fun Q => g_goto d_M_one_121 rfl) ?_
    exact S.ret (fun Q hq => g_iret rfl d_M_one_144 hq)
  · refine S.of1 (pc2 := 125) (fun Q => g_iload_n d_M_one_124 rfl) ?_
    refine S.of1 (pc2 := 127) (fun Q => g_bipush (v := (45 : Int32)) d_M_one_125 (by decide)) ?_
    refine S.br (c := v1 = (45 : Int32)) (t := 130) (e := 135) (fun Q kt kf => g_icmp_ne d_M_one_127 rfl kf kt) (fun h16 => ?_) (fun h16 => ?_)
    · refine S.of1 (pc2 := 131) (fun Q => g_iload_n d_M_one_130 rfl) ?_
      refine S.of1 (pc2 := 132) (fun Q => g_ineg d_M_one_131) ?_
      refine S.of1 (pc2 := 144) (fun Q => g_goto d_M_one_132 rfl) ?_
      exact S.ret (fun Q hq => g_iret rfl d_M_one_144 hq)
    · refine S.of1 (pc2 := 136) (fun Q => g_iload_n d_M_one_135 rfl) ?_
      refine S.br (c := v2 = 0) (t := 139) (e := 143) (fun Q kt kf => g_if_ne d_M_one_136 rfl kf kt) (fun h17 => ?_) (fun h17 => ?_)
      · refine S.of1 (pc2 := 140) (fun Q => g_iconst (v := (1 : Int32)) d_M_one_139 (by decide)) ?_
        refine S.of1 (pc2 := 144) (fun Q => g_goto d_M_one_140 rfl) ?_
        exact S.ret (fun Q hq => g_iret rfl d_M_one_144 hq)
      · refine S.of1 (pc2 := 144) (fun Q => g_iconst (v := (0 : Int32)) d_M_one_143 (by decide)) ?_
        exact S.ret (fun Q hq => g_iret rfl d_M_one_144 hq)
def f_M_one_j83 (kone : gS → Option (Int32 × gS)) (v1 : Int32) (s0 : Int32) (σ : gS) : Option (Int32 × gS) :=
  if v1 = (40 : Int32) then (f_M_takes (41 : Int32) σ).bind fun q11 => if q11.1 = 0 then (f_M_wrong q11.2).bind fun q13 => some (q13.1, q13.2) else f_M_one_j104 kone v1 s0 q11.2 else f_M_one_j104 kone v1 s0 σ
theorem s_M_one_j83 (D : Nat) (hD : 2 ≤ D) (kone : gS → Option (Int32 × gS)) (hkone : ∀ (d : Nat) (_ : D ≤ d) (σ : gS), C wI d m_M_one [.ref 59] σ (kone σ)) (d : Nat) (hd : D + 6 ≤ d) (v1 : Int32) (s0 : Int32) (σ : gS) : S wI m_M_one d 83 [some (.ref 59), some (.int v1), none, none, none] [.int s0] σ (f_M_one_j83 kone v1 s0 σ) := by
  unfold f_M_one_j83
  refine S.of1 (pc2 := 84) (L2 := [some (.ref 59), some (.int v1), some (.int s0), none, none]) (fun Q => g_istore_n d_M_one_83 (Nat.le_of_ble_eq_true rfl) rfl) ?_
  refine S.of1 (pc2 := 85) (fun Q => g_iload_n d_M_one_84 rfl) ?_
  refine S.of1 (pc2 := 87) (fun Q => g_bipush (v := (40 : Int32)) d_M_one_85 (by decide)) ?_
  refine S.br (c := v1 = (40 : Int32)) (t := 90) (e := 104) (fun Q kt kf => g_icmp_ne d_M_one_87 rfl kf kt) (fun h10 => ?_) (fun h10 => ?_)
  · refine S.of1 (pc2 := 91) (fun Q => g_aload_n d_M_one_90 rfl) ?_
    refine S.of1 (pc2 := 93) (fun Q => g_bipush (v := (41 : Int32)) d_M_one_91 (by decide)) ?_
    refine S.call_wI (pc3 := 96) rfl (c_M_takes (d - 1) (by omega) (41 : Int32) σ) (fun Q => g_callV (M2 := m_M_takes) (vs := [.int (41 : Int32)]) (st := []) lv_RX11_160 gk_59 rfl rfl (Nat.le_of_ble_eq_true rfl) (by omega) (Nat.le_of_ble_eq_true rfl) rfl d_M_one_93) (fun q11 => ?_)
    refine S.br (c := q11.1 = 0) (t := 99) (e := 104) (fun Q kt kf => g_if_ne d_M_one_96 rfl kf kt) (fun h12 => ?_) (fun h12 => ?_)
    · refine S.of1 (pc2 := 100) (fun Q => g_aload_n d_M_one_99 rfl) ?_
      refine S.call_wI (pc3 := 103) rfl (c_M_wrong (d - 1) (by omega) q11.2) (fun Q => g_callV (M2 := m_M_wrong) (vs := []) (st := []) lv_RX11_178 gk_59 rfl rfl (Nat.le_of_ble_eq_true rfl) (by omega) (Nat.le_of_ble_eq_true rfl) rfl d_M_one_100) (fun q13 => ?_)
      exact S.ret (fun Q hq => g_iret rfl d_M_one_103 hq)
    · exact S.wk (L2 := [some (.ref 59), some (.int v1), some (.int s0), none, none]) (And.intro rfl (And.intro rfl (And.intro rfl trivial))) (s_M_one_j104 D hD kone hkone d hd v1 s0 q11.2)
  · exact S.wk (L2 := [some (.ref 59), some (.int v1), some (.int s0), none, none]) (And.intro rfl (And.intro rfl (And.intro rfl trivial))) (s_M_one_j104 D hD kone hkone d hd v1 s0 σ)
def f_M_one_j32 (kone : gS → Option (Int32 × gS)) (v1 : Int32) (σ : gS) : Option (Int32 × gS) :=
  if (σ.1 59 15) = (6 : Int32) then (f_M_wrong σ).bind fun q5 => some (q5.1, q5.2) else gup (gpi σ 59 15 ((σ.1 59 15) + (1 : Int32))) fun s6 => gup (gpi s6 59 12 ((s6.1 59 12) + (1 : Int32))) fun s7 => if v1 = (40 : Int32) then (fo_M_either kone s7).bind fun q9 => f_M_one_j83 kone v1 q9.1 q9.2 else (kone s7).bind fun q18 => f_M_one_j83 kone v1 q18.1 q18.2
theorem s_M_one_j32 (D : Nat) (hD : 2 ≤ D) (kone : gS → Option (Int32 × gS)) (hkone : ∀ (d : Nat) (_ : D ≤ d) (σ : gS), C wI d m_M_one [.ref 59] σ (kone σ)) (d : Nat) (hd : D + 6 ≤ d) (v1 : Int32) (σ : gS) : S wI m_M_one d 32 [some (.ref 59), some (.int v1), none, none, none] [] σ (f_M_one_j32 kone v1 σ) := by
  unfold f_M_one_j32
  refine S.of1 (pc2 := 33) (fun Q => g_aload_n d_M_one_32 rfl) ?_
  refine S.of1 (pc2 := 36) (fun Q => g_geti fl_RX11_175 gc_59_15 d_M_one_33) ?_
  refine S.of1 (pc2 := 38) (fun Q => g_bipush (v := (6 : Int32)) d_M_one_36 (by decide)) ?_
  refine S.br (c := (σ.1 59 15) = (6 : Int32)) (t := 41) (e := 46) (fun Q kt kf => g_icmp_ne d_M_one_38 rfl kf kt) (fun h4 => ?_) (fun h4 => ?_)
  · refine S.of1 (pc2 := 42) (fun Q => g_aload_n d_M_one_41 rfl) ?_
    refine S.call_wI (pc3 := 45) rfl (c_M_wrong (d - 1) (by omega) σ) (fun Q => g_callV (M2 := m_M_wrong) (vs := []) (st := []) lv_RX11_178 gk_59 rfl rfl (Nat.le_of_ble_eq_true rfl) (by omega) (Nat.le_of_ble_eq_true rfl) rfl d_M_one_42) (fun q5 => ?_)
    exact S.ret (fun Q hq => g_iret rfl d_M_one_45 hq)
  · refine S.of1 (pc2 := 47) (fun Q => g_aload_n d_M_one_46 rfl) ?_
    refine S.of1 (pc2 := 48) (fun Q => g_dup d_M_one_47 rfl) ?_
    refine S.of1 (pc2 := 51) (fun Q => g_geti fl_RX11_175 gc_59_15 d_M_one_48) ?_
    refine S.of1 (pc2 := 52) (fun Q => g_iconst (v := (1 : Int32)) d_M_one_51 (by decide)) ?_
    refine S.of1 (pc2 := 53) (fun Q => g_iadd d_M_one_52) ?_
    refine S.of1 (pc2 := 56) (fun Q => g_puti fl_RX11_175 gc_59_15 rfl rfl d_M_one_53) ?_
    refine S.gup (fun s6 => ?_)
    refine S.of1 (pc2 := 57) (fun Q => g_aload_n d_M_one_56 rfl) ?_
    refine S.of1 (pc2 := 58) (fun Q => g_dup d_M_one_57 rfl) ?_
    refine S.of1 (pc2 := 61) (fun Q => g_geti fl_RX11_141 gc_59_12 d_M_one_58) ?_
    refine S.of1 (pc2 := 62) (fun Q => g_iconst (v := (1 : Int32)) d_M_one_61 (by decide)) ?_
    refine S.of1 (pc2 := 63) (fun Q => g_iadd d_M_one_62) ?_
    refine S.of1 (pc2 := 66) (fun Q => g_puti fl_RX11_141 gc_59_12 rfl rfl d_M_one_63) ?_
    refine S.gup (fun s7 => ?_)
    refine S.of1 (pc2 := 67) (fun Q => g_iload_n d_M_one_66 rfl) ?_
    refine S.of1 (pc2 := 69) (fun Q => g_bipush (v := (40 : Int32)) d_M_one_67 (by decide)) ?_
    refine S.br (c := v1 = (40 : Int32)) (t := 72) (e := 79) (fun Q kt kf => g_icmp_ne d_M_one_69 rfl kf kt) (fun h8 => ?_) (fun h8 => ?_)
    · refine S.of1 (pc2 := 73) (fun Q => g_aload_n d_M_one_72 rfl) ?_
      refine S.call_wI (pc3 := 76) rfl (co_M_either D hD kone hkone (d - 1) (by omega) s7) (fun Q => g_callV (M2 := m_M_either) (vs := []) (st := []) lv_RX11_181 gk_59 rfl rfl (Nat.le_of_ble_eq_true rfl) (by omega) (Nat.le_of_ble_eq_true rfl) rfl d_M_one_73) (fun q9 => ?_)
      refine S.of1 (pc2 := 83) (fun Q => g_goto d_M_one_76 rfl) ?_
      exact S.wk (L2 := [some (.ref 59), some (.int v1), none, none, none]) (And.intro rfl (And.intro rfl trivial)) (s_M_one_j83 D hD kone hkone d hd v1 q9.1 q9.2)
    · refine S.of1 (pc2 := 80) (fun Q => g_aload_n d_M_one_79 rfl) ?_
      refine S.call_wI (pc3 := 83) rfl (hkone (d - 1) (by omega) s7) (fun Q => g_callV (M2 := m_M_one) (vs := []) (st := []) lv_RX11_172 gk_59 rfl rfl (Nat.le_of_ble_eq_true rfl) (by omega) (Nat.le_of_ble_eq_true rfl) rfl d_M_one_80) (fun q18 => ?_)
      exact S.wk (L2 := [some (.ref 59), some (.int v1), none, none, none]) (And.intro rfl (And.intro rfl trivial)) (s_M_one_j83 D hD kone hkone d hd v1 q18.1 q18.2)
def f_M_one_j229 (kone : gS → Option (Int32 × gS)) (v3 : Int32) (v4 : Int32) (σ : gS) : Option (Int32 × gS) :=
  if v4 = 0 then (f_M_wrong σ).bind fun q25 => some (q25.1, q25.2) else some (v3, σ)
theorem s_M_one_j229 (D : Nat) (hD : 2 ≤ D) (kone : gS → Option (Int32 × gS)) (hkone : ∀ (d : Nat) (_ : D ≤ d) (σ : gS), C wI d m_M_one [.ref 59] σ (kone σ)) (d : Nat) (hd : D + 6 ≤ d) (v3 : Int32) (v4 : Int32) (σ : gS) : S wI m_M_one d 229 [some (.ref 59), none, none, some (.int v3), some (.int v4)] [] σ (f_M_one_j229 kone v3 v4 σ) := by
  unfold f_M_one_j229
  refine S.of1 (pc2 := 231) (fun Q => g_iload d_M_one_229 rfl) ?_
  refine S.br (c := v4 = 0) (t := 234) (e := 241) (fun Q kt kf => g_if_ne d_M_one_231 rfl kf kt) (fun h24 => ?_) (fun h24 => ?_)
  · refine S.of1 (pc2 := 235) (fun Q => g_aload_n d_M_one_234 rfl) ?_
    refine S.call_wI (pc3 := 238) rfl (c_M_wrong (d - 1) (by omega) σ) (fun Q => g_callV (M2 := m_M_wrong) (vs := []) (st := []) lv_RX11_178 gk_59 rfl rfl (Nat.le_of_ble_eq_true rfl) (by omega) (Nat.le_of_ble_eq_true rfl) rfl d_M_one_235) (fun q25 => ?_)
    refine S.of1 (pc2 := 242) (fun Q => g_goto d_M_one_238 rfl) ?_
    exact S.ret (fun Q hq => g_iret rfl d_M_one_242 hq)
  · refine S.of1 (pc2 := 242) (fun Q => g_iload_n d_M_one_241 rfl) ?_
    exact S.ret (fun Q hq => g_iret rfl d_M_one_242 hq)
def f_M_one_L176 (kone : gS → Option (Int32 × gS)) : Nat → Int32 → Int32 → gS → Option (Int32 × gS)
  | 0, _, _, _ => none
  | n + 1, v3, v4, σ =>
  if (4 : Int32) ≤ v4 then f_M_one_j229 kone v3 v4 σ else (f_M_byteAt σ).bind fun q26 => if q26 < (48 : Int32) then f_M_one_j229 kone v3 v4 σ else (f_M_byteAt σ).bind fun q28 => if (57 : Int32) < q28 then f_M_one_j229 kone v3 v4 σ else (f_M_byteAt σ).bind fun q30 => glt ((((10 : Int32) * v3) + q30) - (48 : Int32)) fun x31 => gup (gpi σ 59 12 ((σ.1 59 12) + (1 : Int32))) fun s32 => (fun v3 v4 σ => f_M_one_L176 kone n v3 v4 σ) x31 (v4 + (1 : Int32)) s32
theorem s_M_one_L176 (D : Nat) (hD : 2 ≤ D) (kone : gS → Option (Int32 × gS)) (hkone : ∀ (d : Nat) (_ : D ≤ d) (σ : gS), C wI d m_M_one [.ref 59] σ (kone σ)) (d : Nat) (hd : D + 6 ≤ d) : ∀ (n : Nat) (v3 : Int32) (v4 : Int32) (σ : gS), S wI m_M_one d 176 [some (.ref 59), none, none, some (.int v3), some (.int v4)] [] σ (f_M_one_L176 kone n v3 v4 σ) := by
  intro n
  induction n with
  | zero =>
    intros
    unfold f_M_one_L176
    exact S.no
  | succ n ih =>
    intro v3 v4 σ
    unfold f_M_one_L176
    refine S.of1 (pc2 := 178) (fun Q => g_iload d_M_one_176 rfl) ?_
    refine S.of1 (pc2 := 179) (fun Q => g_iconst (v := (4 : Int32)) d_M_one_178 (by decide)) ?_
    refine S.br (c := (4 : Int32) ≤ v4) (t := 229) (e := 182) (fun Q kt kf => g_icmp_ge d_M_one_179 rfl kt kf) (fun h23 => ?_) (fun h23 => ?_)
    · exact S.wk (L2 := [some (.ref 59), none, none, some (.int v3), some (.int v4)]) (And.intro rfl (And.intro rfl (And.intro rfl trivial))) (s_M_one_j229 D hD kone hkone d hd v3 v4 σ)
    · refine S.of1 (pc2 := 183) (fun Q => g_aload_n d_M_one_182 rfl) ?_
      refine S.call_rI (pc3 := 186) rfl (c_M_byteAt (d - 1) (by omega) σ) (fun Q => g_callV (M2 := m_M_byteAt) (vs := []) (st := []) lv_RX11_153 gk_59 rfl rfl (Nat.le_of_ble_eq_true rfl) (by omega) (Nat.le_of_ble_eq_true rfl) rfl d_M_one_183) (fun q26 => ?_)
      refine S.of1 (pc2 := 188) (fun Q => g_bipush (v := (48 : Int32)) d_M_one_186 (by decide)) ?_
      refine S.br (c := q26 < (48 : Int32)) (t := 229) (e := 191) (fun Q kt kf => g_icmp_lt d_M_one_188 rfl kt kf) (fun h27 => ?_) (fun h27 => ?_)
      · exact S.wk (L2 := [some (.ref 59), none, none, some (.int v3), some (.int v4)]) (And.intro rfl (And.intro rfl (And.intro rfl trivial))) (s_M_one_j229 D hD kone hkone d hd v3 v4 σ)
      · refine S.of1 (pc2 := 192) (fun Q => g_aload_n d_M_one_191 rfl) ?_
        refine S.call_rI (pc3 := 195) rfl (c_M_byteAt (d - 1) (by omega) σ) (fun Q => g_callV (M2 := m_M_byteAt) (vs := []) (st := []) lv_RX11_153 gk_59 rfl rfl (Nat.le_of_ble_eq_true rfl) (by omega) (Nat.le_of_ble_eq_true rfl) rfl d_M_one_192) (fun q28 => ?_)
        refine S.of1 (pc2 := 197) (fun Q => g_bipush (v := (57 : Int32)) d_M_one_195 (by decide)) ?_
        refine S.br (c := (57 : Int32) < q28) (t := 229) (e := 200) (fun Q kt kf => g_icmp_gt d_M_one_197 rfl kt kf) (fun h29 => ?_) (fun h29 => ?_)
        · exact S.wk (L2 := [some (.ref 59), none, none, some (.int v3), some (.int v4)]) (And.intro rfl (And.intro rfl (And.intro rfl trivial))) (s_M_one_j229 D hD kone hkone d hd v3 v4 σ)
        · refine S.of1 (pc2 := 202) (fun Q => g_bipush (v := (10 : Int32)) d_M_one_200 (by decide)) ?_
          refine S.of1 (pc2 := 203) (fun Q => g_iload_n d_M_one_202 rfl) ?_
          refine S.of1 (pc2 := 204) (fun Q => g_imul d_M_one_203) ?_
          refine S.of1 (pc2 := 205) (fun Q => g_aload_n d_M_one_204 rfl) ?_
          refine S.call_rI (pc3 := 208) rfl (c_M_byteAt (d - 1) (by omega) σ) (fun Q => g_callV (M2 := m_M_byteAt) (vs := []) (st := [.int ((10 : Int32) * v3)]) lv_RX11_153 gk_59 rfl rfl (Nat.le_of_ble_eq_true rfl) (by omega) (Nat.le_of_ble_eq_true rfl) rfl d_M_one_205) (fun q30 => ?_)
          refine S.of1 (pc2 := 209) (fun Q => g_iadd d_M_one_208) ?_
          refine S.of1 (pc2 := 211) (fun Q => g_bipush (v := (48 : Int32)) d_M_one_209 (by decide)) ?_
          refine S.of1 (pc2 := 212) (fun Q => g_isub d_M_one_211) ?_
          refine S.of1 (pc2 := 213) (L2 := [some (.ref 59), none, none, some (.int ((((10 : Int32) * v3) + q30) - (48 : Int32))), some (.int v4)]) (fun Q => g_istore_n d_M_one_212 (Nat.le_of_ble_eq_true rfl) rfl) ?_
          refine S.glt (x := ((((10 : Int32) * v3) + q30) - (48 : Int32))) (Lf := fun y => [some (.ref 59), none, none, some (.int y), some (.int v4)]) (fun x31 => ?_)
          refine S.of1 (pc2 := 216) (L2 := [some (.ref 59), none, none, some (.int x31), some (.int (v4 + (1 : Int32)))]) (fun Q => g_iinc d_M_one_213 rfl (congrArg (fun z => v4 + z) (by decide)) (Nat.le_of_ble_eq_true rfl) rfl) ?_
          refine S.of1 (pc2 := 217) (fun Q => g_aload_n d_M_one_216 rfl) ?_
          refine S.of1 (pc2 := 218) (fun Q => g_dup d_M_one_217 rfl) ?_
          refine S.of1 (pc2 := 221) (fun Q => g_geti fl_RX11_141 gc_59_12 d_M_one_218) ?_
          refine S.of1 (pc2 := 222) (fun Q => g_iconst (v := (1 : Int32)) d_M_one_221 (by decide)) ?_
          refine S.of1 (pc2 := 223) (fun Q => g_iadd d_M_one_222) ?_
          refine S.of1 (pc2 := 226) (fun Q => g_puti fl_RX11_141 gc_59_12 rfl rfl d_M_one_223) ?_
          refine S.gup (fun s32 => ?_)
          refine S.of1 (pc2 := 176) (fun Q => g_goto d_M_one_226 rfl) ?_
          exact S.wk (L2 := [some (.ref 59), none, none, some (.int x31), some (.int (v4 + (1 : Int32)))]) (And.intro rfl (And.intro rfl (And.intro rfl trivial))) (ih x31 (v4 + (1 : Int32)) s32)
def fo_M_one (kone : gS → Option (Int32 × gS)) (σ : gS) : Option (Int32 × gS) :=
  if (σ.1 59 14) < 0 then (f_M_byteAt σ).bind fun q2 => if q2 = (33 : Int32) then f_M_one_j32 kone q2 σ else if q2 = (45 : Int32) then f_M_one_j32 kone q2 σ else if q2 = (40 : Int32) then f_M_one_j32 kone q2 σ else (f_M_nameOf q2).bind fun q21 => if q21 < 0 then f_M_one_L176 kone gfu (0 : Int32) (0 : Int32) σ else gup (gpi σ 59 12 ((σ.1 59 12) + (1 : Int32))) fun s33 => if gix q21 6 then some ((s33.1 66 q21.toNatClampNeg), s33) else none else some ((0 : Int32), σ)
theorem co_M_one (D : Nat) (hD : 2 ≤ D) (kone : gS → Option (Int32 × gS)) (hkone : ∀ (d : Nat) (_ : D ≤ d) (σ : gS), C wI d m_M_one [.ref 59] σ (kone σ)) (d : Nat) (hd : D + 6 ≤ d) (σ : gS) : C wI d m_M_one [.ref 59] σ (fo_M_one kone σ) := by
  unfold fo_M_one
  refine C.of (by decide +kernel) (Nat.le_of_ble_eq_true rfl) (L := [some (.ref 59), none, none, none, none]) rfl ?_
  refine S.of1 (pc2 := 1) (fun Q => g_aload_n d_M_one_0 rfl) ?_
  refine S.of1 (pc2 := 4) (fun Q => g_geti fl_RX11_150 gc_59_14 d_M_one_1) ?_
  refine S.br (c := (σ.1 59 14) < 0) (t := 9) (e := 7) (fun Q kt kf => g_if_lt d_M_one_4 rfl kt kf) (fun h1 => ?_) (fun h1 => ?_)
  · refine S.of1 (pc2 := 10) (fun Q => g_aload_n d_M_one_9 rfl) ?_
    refine S.call_rI (pc3 := 13) rfl (c_M_byteAt (d - 1) (by omega) σ) (fun Q => g_callV (M2 := m_M_byteAt) (vs := []) (st := []) lv_RX11_153 gk_59 rfl rfl (Nat.le_of_ble_eq_true rfl) (by omega) (Nat.le_of_ble_eq_true rfl) rfl d_M_one_10) (fun q2 => ?_)
    refine S.of1 (pc2 := 14) (L2 := [some (.ref 59), some (.int q2), none, none, none]) (fun Q => g_istore_n d_M_one_13 (Nat.le_of_ble_eq_true rfl) rfl) ?_
    refine S.of1 (pc2 := 15) (fun Q => g_iload_n d_M_one_14 rfl) ?_
    refine S.of1 (pc2 := 17) (fun Q => g_bipush (v := (33 : Int32)) d_M_one_15 (by decide)) ?_
    refine S.br (c := q2 = (33 : Int32)) (t := 32) (e := 20) (fun Q kt kf => g_icmp_eq d_M_one_17 rfl kt kf) (fun h3 => ?_) (fun h3 => ?_)
    · exact S.wk (L2 := [some (.ref 59), some (.int q2), none, none, none]) (And.intro rfl (And.intro rfl trivial)) (s_M_one_j32 D hD kone hkone d hd q2 σ)
    · refine S.of1 (pc2 := 21) (fun Q => g_iload_n d_M_one_20 rfl) ?_
      refine S.of1 (pc2 := 23) (fun Q => g_bipush (v := (45 : Int32)) d_M_one_21 (by decide)) ?_
      refine S.br (c := q2 = (45 : Int32)) (t := 32) (e := 26) (fun Q kt kf => g_icmp_eq d_M_one_23 rfl kt kf) (fun h19 => ?_) (fun h19 => ?_)
      · exact S.wk (L2 := [some (.ref 59), some (.int q2), none, none, none]) (And.intro rfl (And.intro rfl trivial)) (s_M_one_j32 D hD kone hkone d hd q2 σ)
      · refine S.of1 (pc2 := 27) (fun Q => g_iload_n d_M_one_26 rfl) ?_
        refine S.of1 (pc2 := 29) (fun Q => g_bipush (v := (40 : Int32)) d_M_one_27 (by decide)) ?_
        refine S.br (c := q2 = (40 : Int32)) (t := 32) (e := 145) (fun Q kt kf => g_icmp_ne d_M_one_29 rfl kf kt) (fun h20 => ?_) (fun h20 => ?_)
        · exact S.wk (L2 := [some (.ref 59), some (.int q2), none, none, none]) (And.intro rfl (And.intro rfl trivial)) (s_M_one_j32 D hD kone hkone d hd q2 σ)
        · refine S.of1 (pc2 := 146) (fun Q => g_iload_n d_M_one_145 rfl) ?_
          refine S.call_rI (pc3 := 149) rfl (c_M_nameOf (d - 1) (by omega) q2 σ) (fun Q => g_callS (M2 := m_M_nameOf) (vs := [.int q2]) (st := []) ls_RX11_184 rfl (Nat.le_of_ble_eq_true rfl) (by omega) (Nat.le_of_ble_eq_true rfl) rfl d_M_one_146) (fun q21 => ?_)
          refine S.of1 (pc2 := 150) (L2 := [some (.ref 59), some (.int q2), some (.int q21), none, none]) (fun Q => g_istore_n d_M_one_149 (Nat.le_of_ble_eq_true rfl) rfl) ?_
          refine S.of1 (pc2 := 151) (fun Q => g_iload_n d_M_one_150 rfl) ?_
          refine S.br (c := q21 < 0) (t := 171) (e := 154) (fun Q kt kf => g_if_lt d_M_one_151 rfl kt kf) (fun h22 => ?_) (fun h22 => ?_)
          · refine S.of1 (pc2 := 172) (fun Q => g_iconst (v := (0 : Int32)) d_M_one_171 (by decide)) ?_
            refine S.of1 (pc2 := 173) (L2 := [some (.ref 59), some (.int q2), some (.int q21), some (.int (0 : Int32)), none]) (fun Q => g_istore_n d_M_one_172 (Nat.le_of_ble_eq_true rfl) rfl) ?_
            refine S.of1 (pc2 := 174) (fun Q => g_iconst (v := (0 : Int32)) d_M_one_173 (by decide)) ?_
            refine S.of1 (pc2 := 176) (L2 := [some (.ref 59), some (.int q2), some (.int q21), some (.int (0 : Int32)), some (.int (0 : Int32))]) (fun Q => g_istore d_M_one_174 (Nat.le_of_ble_eq_true rfl) rfl) ?_
            exact S.wk (L2 := [some (.ref 59), none, none, some (.int (0 : Int32)), some (.int (0 : Int32))]) (And.intro rfl (And.intro rfl (And.intro rfl trivial))) (s_M_one_L176 D hD kone hkone d hd gfu (0 : Int32) (0 : Int32) σ)
          · refine S.of1 (pc2 := 155) (fun Q => g_aload_n d_M_one_154 rfl) ?_
            refine S.of1 (pc2 := 156) (fun Q => g_dup d_M_one_155 rfl) ?_
            refine S.of1 (pc2 := 159) (fun Q => g_geti fl_RX11_141 gc_59_12 d_M_one_156) ?_
            refine S.of1 (pc2 := 160) (fun Q => g_iconst (v := (1 : Int32)) d_M_one_159 (by decide)) ?_
            refine S.of1 (pc2 := 161) (fun Q => g_iadd d_M_one_160) ?_
            refine S.of1 (pc2 := 164) (fun Q => g_puti fl_RX11_141 gc_59_12 rfl rfl d_M_one_161) ?_
            refine S.gup (fun s33 => ?_)
            refine S.of1 (pc2 := 165) (fun Q => g_aload_n d_M_one_164 rfl) ?_
            refine S.of1 (pc2 := 168) (fun Q => g_getr fl_RX11_28 gc_59_16 d_M_one_165) ?_
            refine S.of1 (pc2 := 169) (fun Q => g_iload_n d_M_one_168 rfl) ?_
            refine S.chk (fun h34 => ?_)
            refine S.of1 (pc2 := 170) (fun Q => g_iald ga_66 (gix_in h34) d_M_one_169) ?_
            exact S.ret (fun Q hq => g_iret rfl d_M_one_170 hq)
  · refine S.of1 (pc2 := 8) (fun Q => g_iconst (v := (0 : Int32)) d_M_one_7 (by decide)) ?_
    exact S.ret (fun Q hq => g_iret rfl d_M_one_8 hq)
def f_M_one : Nat → gS → Option (Int32 × gS)
  | 0, _ => none
  | n + 1, σ => fo_M_one (fun σ => f_M_one n σ) σ
theorem c_M_one : ∀ (n d : Nat) (_ : 2 + 6 * n ≤ d) (σ : gS), C wI d m_M_one [.ref 59] σ (f_M_one n σ) := by
  intro n
  induction n with
  | zero =>
    intros
    unfold f_M_one
    intro a Q h1 _
    cases h1
  | succ n ih =>
    intro d hd σ
    unfold f_M_one
    exact co_M_one (2 + 6 * n) (by omega) _ (fun d hd σ => ih d hd σ) d (by omega) σ
def f_M_product (σ : gS) : Option (Int32 × gS) := fo_M_product (fun σ => f_M_one 8 σ) σ
theorem c_M_product (d : Nat) (hd : 51 ≤ d) (σ : gS) : C wI d m_M_product [.ref 59] σ (f_M_product σ) := by
  unfold f_M_product
  exact co_M_product 50 (by decide) _ (fun d hd σ => c_M_one 8 d hd σ) d (by omega) σ
def f_M_sums (σ : gS) : Option (Int32 × gS) := fo_M_sums (fun σ => f_M_one 8 σ) σ
theorem c_M_sums (d : Nat) (hd : 52 ≤ d) (σ : gS) : C wI d m_M_sums [.ref 59] σ (f_M_sums σ) := by
  unfold f_M_sums
  exact co_M_sums 50 (by decide) _ (fun d hd σ => c_M_one 8 d hd σ) d (by omega) σ
def f_M_compared (σ : gS) : Option (Int32 × gS) := fo_M_compared (fun σ => f_M_one 8 σ) σ
theorem c_M_compared (d : Nat) (hd : 53 ≤ d) (σ : gS) : C wI d m_M_compared [.ref 59] σ (f_M_compared σ) := by
  unfold f_M_compared
  exact co_M_compared 50 (by decide) _ (fun d hd σ => c_M_one 8 d hd σ) d (by omega) σ
def f_M_both (σ : gS) : Option (Int32 × gS) := fo_M_both (fun σ => f_M_one 8 σ) σ
theorem c_M_both (d : Nat) (hd : 54 ≤ d) (σ : gS) : C wI d m_M_both [.ref 59] σ (f_M_both σ) := by
  unfold f_M_both
  exact co_M_both 50 (by decide) _ (fun d hd σ => c_M_one 8 d hd σ) d (by omega) σ
def f_M_either (σ : gS) : Option (Int32 × gS) := fo_M_either (fun σ => f_M_one 8 σ) σ
theorem c_M_either (d : Nat) (hd : 55 ≤ d) (σ : gS) : C wI d m_M_either [.ref 59] σ (f_M_either σ) := by
  unfold f_M_either
  exact co_M_either 50 (by decide) _ (fun d hd σ => c_M_one 8 d hd σ) d (by omega) σ
def f_M_workOut_j96 (k33 : Int32 → Int32 → Int32 → gS → Option (Int32 × gS)) (v3 : Int32) (v4 : Int32) (σ : gS) : Option (Int32 × gS) :=
  (f_M_takes (59 : Int32) σ).bind fun q14 => k33 v3 v4 q14.1 q14.2
theorem s_M_workOut_j96 (d : Nat) (hd : 56 ≤ d) (k33 : Int32 → Int32 → Int32 → gS → Option (Int32 × gS)) (hk33 : ∀ (v3 : Int32) (v4 : Int32) (v5 : Int32) (τ : gS), S wI m_M_workOut d 33 [some (.ref 59), none, none, some (.int v3), some (.int v4), some (.int v5), none, none] [] τ (k33 v3 v4 v5 τ)) (v3 : Int32) (v4 : Int32) (σ : gS) : S wI m_M_workOut d 96 [some (.ref 59), none, none, some (.int v3), some (.int v4), none, none, none] [] σ (f_M_workOut_j96 k33 v3 v4 σ) := by
  unfold f_M_workOut_j96
  refine S.of1 (pc2 := 97) (fun Q => g_aload_n d_M_workOut_96 rfl) ?_
  refine S.of1 (pc2 := 99) (fun Q => g_bipush (v := (59 : Int32)) d_M_workOut_97 (by decide)) ?_
  refine S.call_wI (pc3 := 102) rfl (c_M_takes (d - 1) (by omega) (59 : Int32) σ) (fun Q => g_callV (M2 := m_M_takes) (vs := [.int (59 : Int32)]) (st := []) lv_RX11_160 gk_59 rfl rfl (Nat.le_of_ble_eq_true rfl) (by omega) (Nat.le_of_ble_eq_true rfl) rfl d_M_workOut_99) (fun q14 => ?_)
  refine S.of1 (pc2 := 104) (L2 := [some (.ref 59), none, none, some (.int v3), some (.int v4), some (.int q14.1), none, none]) (fun Q => g_istore d_M_workOut_102 (Nat.le_of_ble_eq_true rfl) rfl) ?_
  refine S.of1 (pc2 := 33) (fun Q => g_goto d_M_workOut_104 rfl) ?_
  exact S.wk (L2 := [some (.ref 59), none, none, some (.int v3), some (.int v4), some (.int q14.1), none, none]) (And.intro rfl (And.intro rfl (And.intro rfl (And.intro rfl trivial)))) (hk33 v3 v4 q14.1 q14.2)
def f_M_workOut_j74 (k33 : Int32 → Int32 → Int32 → gS → Option (Int32 × gS)) (v3 : Int32) (v4 : Int32) (v6 : Int32) (v7 : Int32) (σ : gS) : Option (Int32 × gS) :=
  if 0 ≤ (σ.1 59 14) then f_M_workOut_j96 k33 v3 v4 σ else if v7 = 0 then f_M_workOut_j96 k33 v3 v4 σ else if v3 = 0 then f_M_workOut_j96 k33 (1 : Int32) v6 σ else f_M_workOut_j96 k33 v3 v4 σ
theorem s_M_workOut_j74 (d : Nat) (hd : 56 ≤ d) (k33 : Int32 → Int32 → Int32 → gS → Option (Int32 × gS)) (hk33 : ∀ (v3 : Int32) (v4 : Int32) (v5 : Int32) (τ : gS), S wI m_M_workOut d 33 [some (.ref 59), none, none, some (.int v3), some (.int v4), some (.int v5), none, none] [] τ (k33 v3 v4 v5 τ)) (v3 : Int32) (v4 : Int32) (v6 : Int32) (v7 : Int32) (σ : gS) : S wI m_M_workOut d 74 [some (.ref 59), none, none, some (.int v3), some (.int v4), none, some (.int v6), some (.int v7)] [] σ (f_M_workOut_j74 k33 v3 v4 v6 v7 σ) := by
  unfold f_M_workOut_j74
  refine S.of1 (pc2 := 75) (fun Q => g_aload_n d_M_workOut_74 rfl) ?_
  refine S.of1 (pc2 := 78) (fun Q => g_geti fl_RX11_150 gc_59_14 d_M_workOut_75) ?_
  refine S.br (c := 0 ≤ (σ.1 59 14)) (t := 96) (e := 81) (fun Q kt kf => g_if_ge d_M_workOut_78 rfl kt kf) (fun h13 => ?_) (fun h13 => ?_)
  · exact S.wk (L2 := [some (.ref 59), none, none, some (.int v3), some (.int v4), none, none, none]) (And.intro rfl (And.intro rfl (And.intro rfl trivial))) (s_M_workOut_j96 d hd k33 hk33 v3 v4 σ)
  · refine S.of1 (pc2 := 83) (fun Q => g_iload d_M_workOut_81 rfl) ?_
    refine S.br (c := v7 = 0) (t := 96) (e := 86) (fun Q kt kf => g_if_eq d_M_workOut_83 rfl kt kf) (fun h15 => ?_) (fun h15 => ?_)
    · exact S.wk (L2 := [some (.ref 59), none, none, some (.int v3), some (.int v4), none, none, none]) (And.intro rfl (And.intro rfl (And.intro rfl trivial))) (s_M_workOut_j96 d hd k33 hk33 v3 v4 σ)
    · refine S.of1 (pc2 := 87) (fun Q => g_iload_n d_M_workOut_86 rfl) ?_
      refine S.br (c := v3 = 0) (t := 90) (e := 96) (fun Q kt kf => g_if_ne d_M_workOut_87 rfl kf kt) (fun h16 => ?_) (fun h16 => ?_)
      · refine S.of1 (pc2 := 91) (fun Q => g_iconst (v := (1 : Int32)) d_M_workOut_90 (by decide)) ?_
        refine S.of1 (pc2 := 92) (L2 := [some (.ref 59), none, none, some (.int (1 : Int32)), some (.int v4), none, some (.int v6), some (.int v7)]) (fun Q => g_istore_n d_M_workOut_91 (Nat.le_of_ble_eq_true rfl) rfl) ?_
        refine S.of1 (pc2 := 94) (fun Q => g_iload d_M_workOut_92 rfl) ?_
        refine S.of1 (pc2 := 96) (L2 := [some (.ref 59), none, none, some (.int (1 : Int32)), some (.int v6), none, some (.int v6), some (.int v7)]) (fun Q => g_istore d_M_workOut_94 (Nat.le_of_ble_eq_true rfl) rfl) ?_
        exact S.wk (L2 := [some (.ref 59), none, none, some (.int (1 : Int32)), some (.int v6), none, none, none]) (And.intro rfl (And.intro rfl (And.intro rfl trivial))) (s_M_workOut_j96 d hd k33 hk33 (1 : Int32) v6 σ)
      · exact S.wk (L2 := [some (.ref 59), none, none, some (.int v3), some (.int v4), none, none, none]) (And.intro rfl (And.intro rfl (And.intro rfl trivial))) (s_M_workOut_j96 d hd k33 hk33 v3 v4 σ)
def f_M_workOut_j66 (k33 : Int32 → Int32 → Int32 → gS → Option (Int32 × gS)) (v3 : Int32) (v4 : Int32) (s0 : Int32) (σ : gS) : Option (Int32 × gS) :=
  (f_M_either σ).bind fun q18 => f_M_workOut_j74 k33 v3 v4 q18.1 s0 q18.2
theorem s_M_workOut_j66 (d : Nat) (hd : 56 ≤ d) (k33 : Int32 → Int32 → Int32 → gS → Option (Int32 × gS)) (hk33 : ∀ (v3 : Int32) (v4 : Int32) (v5 : Int32) (τ : gS), S wI m_M_workOut d 33 [some (.ref 59), none, none, some (.int v3), some (.int v4), some (.int v5), none, none] [] τ (k33 v3 v4 v5 τ)) (v3 : Int32) (v4 : Int32) (s0 : Int32) (σ : gS) : S wI m_M_workOut d 66 [some (.ref 59), none, none, some (.int v3), some (.int v4), none, none, none] [.int s0] σ (f_M_workOut_j66 k33 v3 v4 s0 σ) := by
  unfold f_M_workOut_j66
  refine S.of1 (pc2 := 68) (L2 := [some (.ref 59), none, none, some (.int v3), some (.int v4), none, none, some (.int s0)]) (fun Q => g_istore d_M_workOut_66 (Nat.le_of_ble_eq_true rfl) rfl) ?_
  refine S.of1 (pc2 := 69) (fun Q => g_aload_n d_M_workOut_68 rfl) ?_
  refine S.call_wI (pc3 := 72) rfl (c_M_either (d - 1) (by omega) σ) (fun Q => g_callV (M2 := m_M_either) (vs := []) (st := []) lv_RX11_181 gk_59 rfl rfl (Nat.le_of_ble_eq_true rfl) (by omega) (Nat.le_of_ble_eq_true rfl) rfl d_M_workOut_69) (fun q18 => ?_)
  refine S.of1 (pc2 := 74) (L2 := [some (.ref 59), none, none, some (.int v3), some (.int v4), none, some (.int q18.1), some (.int s0)]) (fun Q => g_istore d_M_workOut_72 (Nat.le_of_ble_eq_true rfl) rfl) ?_
  exact S.wk (L2 := [some (.ref 59), none, none, some (.int v3), some (.int v4), none, some (.int q18.1), some (.int s0)]) (And.intro rfl (And.intro rfl (And.intro rfl (And.intro rfl (And.intro rfl trivial))))) (s_M_workOut_j74 d hd k33 hk33 v3 v4 q18.1 s0 q18.2)
def f_M_workOut_L33 : Nat → Int32 → Int32 → Int32 → gS → Option (Int32 × gS)
  | 0, _, _, _, _ => none
  | n + 1, v3, v4, v5, σ =>
  if v5 = 0 then if 0 ≤ (σ.1 59 14) then some (v4, σ) else if (σ.1 59 13) ≤ (σ.1 59 12) then some (v4, σ) else (f_M_wrong σ).bind fun q9 => some (q9.1, q9.2) else (f_M_either σ).bind fun q10 => (f_M_takes (63 : Int32) q10.2).bind fun q11 => if q11.1 = 0 then f_M_workOut_j74 (fun v3 v4 v5 σ => f_M_workOut_L33 n v3 v4 v5 σ) v3 v4 q10.1 (1 : Int32) q11.2 else if q10.1 = 0 then f_M_workOut_j66 (fun v3 v4 v5 σ => f_M_workOut_L33 n v3 v4 v5 σ) v3 v4 (0 : Int32) q11.2 else f_M_workOut_j66 (fun v3 v4 v5 σ => f_M_workOut_L33 n v3 v4 v5 σ) v3 v4 (1 : Int32) q11.2
theorem s_M_workOut_L33 (d : Nat) (hd : 56 ≤ d) : ∀ (n : Nat) (v3 : Int32) (v4 : Int32) (v5 : Int32) (σ : gS), S wI m_M_workOut d 33 [some (.ref 59), none, none, some (.int v3), some (.int v4), some (.int v5), none, none] [] σ (f_M_workOut_L33 n v3 v4 v5 σ) := by
  intro n
  induction n with
  | zero =>
    intros
    unfold f_M_workOut_L33
    exact S.no
  | succ n ih =>
    intro v3 v4 v5 σ
    unfold f_M_workOut_L33
    refine S.of1 (pc2 := 35) (fun Q => g_iload d_M_workOut_33 rfl) ?_
    refine S.br (c := v5 = 0) (t := 107) (e := 38) (fun Q kt kf => g_if_eq d_M_workOut_35 rfl kt kf) (fun h6 => ?_) (fun h6 => ?_)
    · refine S.of1 (pc2 := 108) (fun Q => g_aload_n d_M_workOut_107 rfl) ?_
      refine S.of1 (pc2 := 111) (fun Q => g_geti fl_RX11_150 gc_59_14 d_M_workOut_108) ?_
      refine S.br (c := 0 ≤ (σ.1 59 14)) (t := 130) (e := 114) (fun Q kt kf => g_if_ge d_M_workOut_111 rfl kt kf) (fun h7 => ?_) (fun h7 => ?_)
      · refine S.of1 (pc2 := 132) (fun Q => g_iload d_M_workOut_130 rfl) ?_
        exact S.ret (fun Q hq => g_iret rfl d_M_workOut_132 hq)
      · refine S.of1 (pc2 := 115) (fun Q => g_aload_n d_M_workOut_114 rfl) ?_
        refine S.of1 (pc2 := 118) (fun Q => g_geti fl_RX11_141 gc_59_12 d_M_workOut_115) ?_
        refine S.of1 (pc2 := 119) (fun Q => g_aload_n d_M_workOut_118 rfl) ?_
        refine S.of1 (pc2 := 122) (fun Q => g_geti fl_RX11_144 gc_59_13 d_M_workOut_119) ?_
        refine S.br (c := (σ.1 59 13) ≤ (σ.1 59 12)) (t := 130) (e := 125) (fun Q kt kf => g_icmp_ge d_M_workOut_122 rfl kt kf) (fun h8 => ?_) (fun h8 => ?_)
        · refine S.of1 (pc2 := 132) (fun Q => g_iload d_M_workOut_130 rfl) ?_
          exact S.ret (fun Q hq => g_iret rfl d_M_workOut_132 hq)
        · refine S.of1 (pc2 := 126) (fun Q => g_aload_n d_M_workOut_125 rfl) ?_
          refine S.call_wI (pc3 := 129) rfl (c_M_wrong (d - 1) (by omega) σ) (fun Q => g_callV (M2 := m_M_wrong) (vs := []) (st := []) lv_RX11_178 gk_59 rfl rfl (Nat.le_of_ble_eq_true rfl) (by omega) (Nat.le_of_ble_eq_true rfl) rfl d_M_workOut_126) (fun q9 => ?_)
          exact S.ret (fun Q hq => g_iret rfl d_M_workOut_129 hq)
    · refine S.of1 (pc2 := 39) (fun Q => g_aload_n d_M_workOut_38 rfl) ?_
      refine S.call_wI (pc3 := 42) rfl (c_M_either (d - 1) (by omega) σ) (fun Q => g_callV (M2 := m_M_either) (vs := []) (st := []) lv_RX11_181 gk_59 rfl rfl (Nat.le_of_ble_eq_true rfl) (by omega) (Nat.le_of_ble_eq_true rfl) rfl d_M_workOut_39) (fun q10 => ?_)
      refine S.of1 (pc2 := 44) (L2 := [some (.ref 59), none, none, some (.int v3), some (.int v4), some (.int v5), some (.int q10.1), none]) (fun Q => g_istore d_M_workOut_42 (Nat.le_of_ble_eq_true rfl) rfl) ?_
      refine S.of1 (pc2 := 45) (fun Q => g_iconst (v := (1 : Int32)) d_M_workOut_44 (by decide)) ?_
      refine S.of1 (pc2 := 47) (L2 := [some (.ref 59), none, none, some (.int v3), some (.int v4), some (.int v5), some (.int q10.1), some (.int (1 : Int32))]) (fun Q => g_istore d_M_workOut_45 (Nat.le_of_ble_eq_true rfl) rfl) ?_
      refine S.of1 (pc2 := 48) (fun Q => g_aload_n d_M_workOut_47 rfl) ?_
      refine S.of1 (pc2 := 50) (fun Q => g_bipush (v := (63 : Int32)) d_M_workOut_48 (by decide)) ?_
      refine S.call_wI (pc3 := 53) rfl (c_M_takes (d - 1) (by omega) (63 : Int32) q10.2) (fun Q => g_callV (M2 := m_M_takes) (vs := [.int (63 : Int32)]) (st := []) lv_RX11_160 gk_59 rfl rfl (Nat.le_of_ble_eq_true rfl) (by omega) (Nat.le_of_ble_eq_true rfl) rfl d_M_workOut_50) (fun q11 => ?_)
      refine S.br (c := q11.1 = 0) (t := 74) (e := 56) (fun Q kt kf => g_if_eq d_M_workOut_53 rfl kt kf) (fun h12 => ?_) (fun h12 => ?_)
      · exact S.wk (L2 := [some (.ref 59), none, none, some (.int v3), some (.int v4), none, some (.int q10.1), some (.int (1 : Int32))]) (And.intro rfl (And.intro rfl (And.intro rfl (And.intro rfl (And.intro rfl trivial))))) (s_M_workOut_j74 d hd (fun v3 v4 v5 σ => f_M_workOut_L33 n v3 v4 v5 σ) (fun v3 v4 v5 τ => ih v3 v4 v5 τ) v3 v4 q10.1 (1 : Int32) q11.2)
      · refine S.of1 (pc2 := 58) (fun Q => g_iload d_M_workOut_56 rfl) ?_
        refine S.br (c := q10.1 = 0) (t := 65) (e := 61) (fun Q kt kf => g_if_eq d_M_workOut_58 rfl kt kf) (fun h17 => ?_) (fun h17 => ?_)
        · refine S.of1 (pc2 := 66) (fun Q => g_iconst (v := (0 : Int32)) d_M_workOut_65 (by decide)) ?_
          exact S.wk (L2 := [some (.ref 59), none, none, some (.int v3), some (.int v4), none, none, none]) (And.intro rfl (And.intro rfl (And.intro rfl trivial))) (s_M_workOut_j66 d hd (fun v3 v4 v5 σ => f_M_workOut_L33 n v3 v4 v5 σ) (fun v3 v4 v5 τ => ih v3 v4 v5 τ) v3 v4 (0 : Int32) q11.2)
        · refine S.of1 (pc2 := 62) (fun Q => g_iconst (v := (1 : Int32)) d_M_workOut_61 (by decide)) ?_
          refine S.of1 (pc2 := 66) (fun Q => g_goto d_M_workOut_62 rfl) ?_
          exact S.wk (L2 := [some (.ref 59), none, none, some (.int v3), some (.int v4), none, none, none]) (And.intro rfl (And.intro rfl (And.intro rfl trivial))) (s_M_workOut_j66 d hd (fun v3 v4 v5 σ => f_M_workOut_L33 n v3 v4 v5 σ) (fun v3 v4 v5 τ => ih v3 v4 v5 τ) v3 v4 (1 : Int32) q11.2)
def f_M_workOut (v1 : Int32) (v2 : Int32) (σ : gS) : Option (Int32 × gS) :=
  gup (gpi σ 59 11 v1) fun s1 => gup (gpi s1 59 12 (0 : Int32)) fun s2 => gup (gpi s2 59 13 v2) fun s3 => gup (gpi s3 59 14 (-1 : Int32)) fun s4 => gup (gpi s4 59 15 (0 : Int32)) fun s5 => f_M_workOut_L33 gfu (0 : Int32) (0 : Int32) (1 : Int32) s5
theorem c_M_workOut (d : Nat) (hd : 56 ≤ d) (v1 : Int32) (v2 : Int32) (σ : gS) : C wI d m_M_workOut [.ref 59, .int v1, .int v2] σ (f_M_workOut v1 v2 σ) := by
  unfold f_M_workOut
  refine C.of (by decide +kernel) (Nat.le_of_ble_eq_true rfl) (L := [some (.ref 59), some (.int v1), some (.int v2), none, none, none, none, none]) rfl ?_
  refine S.of1 (pc2 := 1) (fun Q => g_aload_n d_M_workOut_0 rfl) ?_
  refine S.of1 (pc2 := 2) (fun Q => g_iload_n d_M_workOut_1 rfl) ?_
  refine S.of1 (pc2 := 5) (fun Q => g_puti fl_RX11_147 gc_59_11 rfl rfl d_M_workOut_2) ?_
  refine S.gup (fun s1 => ?_)
  refine S.of1 (pc2 := 6) (fun Q => g_aload_n d_M_workOut_5 rfl) ?_
  refine S.of1 (pc2 := 7) (fun Q => g_iconst (v := (0 : Int32)) d_M_workOut_6 (by decide)) ?_
  refine S.of1 (pc2 := 10) (fun Q => g_puti fl_RX11_141 gc_59_12 rfl rfl d_M_workOut_7) ?_
  refine S.gup (fun s2 => ?_)
  refine S.of1 (pc2 := 11) (fun Q => g_aload_n d_M_workOut_10 rfl) ?_
  refine S.of1 (pc2 := 12) (fun Q => g_iload_n d_M_workOut_11 rfl) ?_
  refine S.of1 (pc2 := 15) (fun Q => g_puti fl_RX11_144 gc_59_13 rfl rfl d_M_workOut_12) ?_
  refine S.gup (fun s3 => ?_)
  refine S.of1 (pc2 := 16) (fun Q => g_aload_n d_M_workOut_15 rfl) ?_
  refine S.of1 (pc2 := 17) (fun Q => g_iconst (v := (-1 : Int32)) d_M_workOut_16 (by decide)) ?_
  refine S.of1 (pc2 := 20) (fun Q => g_puti fl_RX11_150 gc_59_14 rfl rfl d_M_workOut_17) ?_
  refine S.gup (fun s4 => ?_)
  refine S.of1 (pc2 := 21) (fun Q => g_aload_n d_M_workOut_20 rfl) ?_
  refine S.of1 (pc2 := 22) (fun Q => g_iconst (v := (0 : Int32)) d_M_workOut_21 (by decide)) ?_
  refine S.of1 (pc2 := 25) (fun Q => g_puti fl_RX11_175 gc_59_15 rfl rfl d_M_workOut_22) ?_
  refine S.gup (fun s5 => ?_)
  refine S.of1 (pc2 := 26) (fun Q => g_iconst (v := (0 : Int32)) d_M_workOut_25 (by decide)) ?_
  refine S.of1 (pc2 := 27) (L2 := [some (.ref 59), some (.int v1), some (.int v2), some (.int (0 : Int32)), none, none, none, none]) (fun Q => g_istore_n d_M_workOut_26 (Nat.le_of_ble_eq_true rfl) rfl) ?_
  refine S.of1 (pc2 := 28) (fun Q => g_iconst (v := (0 : Int32)) d_M_workOut_27 (by decide)) ?_
  refine S.of1 (pc2 := 30) (L2 := [some (.ref 59), some (.int v1), some (.int v2), some (.int (0 : Int32)), some (.int (0 : Int32)), none, none, none]) (fun Q => g_istore d_M_workOut_28 (Nat.le_of_ble_eq_true rfl) rfl) ?_
  refine S.of1 (pc2 := 31) (fun Q => g_iconst (v := (1 : Int32)) d_M_workOut_30 (by decide)) ?_
  refine S.of1 (pc2 := 33) (L2 := [some (.ref 59), some (.int v1), some (.int v2), some (.int (0 : Int32)), some (.int (0 : Int32)), some (.int (1 : Int32)), none, none]) (fun Q => g_istore d_M_workOut_31 (Nat.le_of_ble_eq_true rfl) rfl) ?_
  exact S.wk (L2 := [some (.ref 59), none, none, some (.int (0 : Int32)), some (.int (0 : Int32)), some (.int (1 : Int32)), none, none]) (And.intro rfl (And.intro rfl (And.intro rfl (And.intro rfl trivial)))) (s_M_workOut_L33 d hd gfu (0 : Int32) (0 : Int32) (1 : Int32) s5)
def f_M_law_L37 : Nat → Int32 → Int32 → gS → Option (Int32 × gS)
  | 0, _, _, _ => none
  | n + 1, v2, v3, σ =>
  if v2 ≤ v3 then gup (gpi σ 59 10 v2) fun s5 => some ((1 : Int32), s5) else if gix v3 120 then if gix v3 120 then gup (gpi σ 65 v3.toNatClampNeg (σ.1 64 v3.toNatClampNeg)) fun s8 => (fun v2 v3 σ => f_M_law_L37 n v2 v3 σ) v2 (v3 + (1 : Int32)) s8 else none else none
theorem s_M_law_L37 (d : Nat) (hd : 57 ≤ d) : ∀ (n : Nat) (v2 : Int32) (v3 : Int32) (σ : gS), S wI m_M_law d 37 [some (.ref 59), none, some (.int v2), some (.int v3)] [] σ (f_M_law_L37 n v2 v3 σ) := by
  intro n
  induction n with
  | zero =>
    intros
    unfold f_M_law_L37
    exact S.no
  | succ n ih =>
    intro v2 v3 σ
    unfold f_M_law_L37
    refine S.of1 (pc2 := 38) (fun Q => g_iload_n d_M_law_37 rfl) ?_
    refine S.of1 (pc2 := 39) (fun Q => g_iload_n d_M_law_38 rfl) ?_
    refine S.br (c := v2 ≤ v3) (t := 60) (e := 42) (fun Q kt kf => g_icmp_ge d_M_law_39 rfl kt kf) (fun h4 => ?_) (fun h4 => ?_)
    · refine S.of1 (pc2 := 61) (fun Q => g_aload_n d_M_law_60 rfl) ?_
      refine S.of1 (pc2 := 62) (fun Q => g_iload_n d_M_law_61 rfl) ?_
      refine S.of1 (pc2 := 65) (fun Q => g_puti fl_RX11_71 gc_59_10 rfl rfl d_M_law_62) ?_
      refine S.gup (fun s5 => ?_)
      refine S.of1 (pc2 := 66) (fun Q => g_iconst (v := (1 : Int32)) d_M_law_65 (by decide)) ?_
      exact S.ret (fun Q hq => g_iret rfl d_M_law_66 hq)
    · refine S.of1 (pc2 := 43) (fun Q => g_aload_n d_M_law_42 rfl) ?_
      refine S.of1 (pc2 := 46) (fun Q => g_getr fl_RX11_25 gc_59_9 d_M_law_43) ?_
      refine S.of1 (pc2 := 47) (fun Q => g_iload_n d_M_law_46 rfl) ?_
      refine S.of1 (pc2 := 48) (fun Q => g_aload_n d_M_law_47 rfl) ?_
      refine S.of1 (pc2 := 51) (fun Q => g_getr fl_RX11_22 gc_59_7 d_M_law_48) ?_
      refine S.of1 (pc2 := 52) (fun Q => g_iload_n d_M_law_51 rfl) ?_
      refine S.chk (fun h6 => ?_)
      refine S.of1 (pc2 := 53) (fun Q => g_iald ga_64 (gix_in h6) d_M_law_52) ?_
      refine S.chk (fun h7 => ?_)
      refine S.of1 (pc2 := 54) (fun Q => g_iast ga_65 (gix_in h7) d_M_law_53) ?_
      refine S.gup (fun s8 => ?_)
      refine S.of1 (pc2 := 57) (L2 := [some (.ref 59), none, some (.int v2), some (.int (v3 + (1 : Int32)))]) (fun Q => g_iinc d_M_law_54 rfl (congrArg (fun z => v3 + z) (by decide)) (Nat.le_of_ble_eq_true rfl) rfl) ?_
      refine S.of1 (pc2 := 37) (fun Q => g_goto d_M_law_57 rfl) ?_
      exact S.wk (L2 := [some (.ref 59), none, some (.int v2), some (.int (v3 + (1 : Int32)))]) (And.intro rfl (And.intro rfl (And.intro rfl trivial))) (ih v2 (v3 + (1 : Int32)) s8)
def f_M_law (σ : gS) : Option (Int32 × gS) :=
  (f_M_workOut (-1 : Int32) (σ.1 59 8) σ).bind fun q1 => gup (gpi q1.2 59 8 (0 : Int32)) fun s2 => if (s2.1 59 14) < 0 then f_M_law_L37 gfu (q1.2.1 59 8) (0 : Int32) s2 else some (((-100 : Int32) - (s2.1 59 14)), s2)
theorem c_M_law (d : Nat) (hd : 57 ≤ d) (σ : gS) : C wI d m_M_law [.ref 59] σ (f_M_law σ) := by
  unfold f_M_law
  refine C.of (by decide +kernel) (Nat.le_of_ble_eq_true rfl) (L := [some (.ref 59), none, none, none]) rfl ?_
  refine S.of1 (pc2 := 1) (fun Q => g_aload_n d_M_law_0 rfl) ?_
  refine S.of1 (pc2 := 2) (fun Q => g_iconst (v := (-1 : Int32)) d_M_law_1 (by decide)) ?_
  refine S.of1 (pc2 := 3) (fun Q => g_aload_n d_M_law_2 rfl) ?_
  refine S.of1 (pc2 := 6) (fun Q => g_geti fl_RX11_138 gc_59_8 d_M_law_3) ?_
  refine S.call_wI (pc3 := 9) rfl (c_M_workOut (d - 1) (by omega) (-1 : Int32) (σ.1 59 8) σ) (fun Q => g_callV (M2 := m_M_workOut) (vs := [.int (-1 : Int32), .int (σ.1 59 8)]) (st := []) lv_RX11_188 gk_59 rfl rfl (Nat.le_of_ble_eq_true rfl) (by omega) (Nat.le_of_ble_eq_true rfl) rfl d_M_law_6) (fun q1 => ?_)
  refine S.of1 (pc2 := 10) (L2 := [some (.ref 59), some (.int q1.1), none, none]) (fun Q => g_istore_n d_M_law_9 (Nat.le_of_ble_eq_true rfl) rfl) ?_
  refine S.of1 (pc2 := 11) (fun Q => g_aload_n d_M_law_10 rfl) ?_
  refine S.of1 (pc2 := 14) (fun Q => g_geti fl_RX11_138 gc_59_8 d_M_law_11) ?_
  refine S.of1 (pc2 := 15) (L2 := [some (.ref 59), some (.int q1.1), some (.int (q1.2.1 59 8)), none]) (fun Q => g_istore_n d_M_law_14 (Nat.le_of_ble_eq_true rfl) rfl) ?_
  refine S.of1 (pc2 := 16) (fun Q => g_aload_n d_M_law_15 rfl) ?_
  refine S.of1 (pc2 := 17) (fun Q => g_iconst (v := (0 : Int32)) d_M_law_16 (by decide)) ?_
  refine S.of1 (pc2 := 20) (fun Q => g_puti fl_RX11_138 gc_59_8 rfl rfl d_M_law_17) ?_
  refine S.gup (fun s2 => ?_)
  refine S.of1 (pc2 := 21) (fun Q => g_aload_n d_M_law_20 rfl) ?_
  refine S.of1 (pc2 := 24) (fun Q => g_geti fl_RX11_150 gc_59_14 d_M_law_21) ?_
  refine S.br (c := (s2.1 59 14) < 0) (t := 35) (e := 27) (fun Q kt kf => g_if_lt d_M_law_24 rfl kt kf) (fun h3 => ?_) (fun h3 => ?_)
  · refine S.of1 (pc2 := 36) (fun Q => g_iconst (v := (0 : Int32)) d_M_law_35 (by decide)) ?_
    refine S.of1 (pc2 := 37) (L2 := [some (.ref 59), some (.int q1.1), some (.int (q1.2.1 59 8)), some (.int (0 : Int32))]) (fun Q => g_istore_n d_M_law_36 (Nat.le_of_ble_eq_true rfl) rfl) ?_
    exact S.wk (L2 := [some (.ref 59), none, some (.int (q1.2.1 59 8)), some (.int (0 : Int32))]) (And.intro rfl (And.intro rfl (And.intro rfl trivial))) (s_M_law_L37 d hd gfu (q1.2.1 59 8) (0 : Int32) s2)
  · refine S.of1 (pc2 := 29) (fun Q => g_bipush (v := (-100 : Int32)) d_M_law_27 (by decide)) ?_
    refine S.of1 (pc2 := 30) (fun Q => g_aload_n d_M_law_29 rfl) ?_
    refine S.of1 (pc2 := 33) (fun Q => g_geti fl_RX11_150 gc_59_14 d_M_law_30) ?_
    refine S.of1 (pc2 := 34) (fun Q => g_isub d_M_law_33) ?_
    exact S.ret (fun Q hq => g_iret rfl d_M_law_34 hq)
def f_M_saysBy_j126 (v4 : Int32) (σ : gS) : Option (Int32 × gS) :=
  if 0 ≤ v4 then if v4 ≤ (5 : Int32) then some (v4, σ) else some ((5 : Int32), σ) else some ((0 : Int32), σ)
theorem s_M_saysBy_j126 (d : Nat) (hd : 57 ≤ d) (v4 : Int32) (σ : gS) : S wI m_M_saysBy d 126 [none, none, none, none, some (.int v4)] [] σ (f_M_saysBy_j126 v4 σ) := by
  unfold f_M_saysBy_j126
  refine S.of1 (pc2 := 128) (fun Q => g_iload d_M_saysBy_126 rfl) ?_
  refine S.br (c := 0 ≤ v4) (t := 135) (e := 131) (fun Q kt kf => g_if_ge d_M_saysBy_128 rfl kt kf) (fun h6 => ?_) (fun h6 => ?_)
  · refine S.of1 (pc2 := 137) (fun Q => g_iload d_M_saysBy_135 rfl) ?_
    refine S.of1 (pc2 := 138) (fun Q => g_iconst (v := (5 : Int32)) d_M_saysBy_137 (by decide)) ?_
    refine S.br (c := v4 ≤ (5 : Int32)) (t := 145) (e := 141) (fun Q kt kf => g_icmp_le d_M_saysBy_138 rfl kt kf) (fun h7 => ?_) (fun h7 => ?_)
    · refine S.of1 (pc2 := 147) (fun Q => g_iload d_M_saysBy_145 rfl) ?_
      exact S.ret (fun Q hq => g_iret rfl d_M_saysBy_147 hq)
    · refine S.of1 (pc2 := 142) (fun Q => g_iconst (v := (5 : Int32)) d_M_saysBy_141 (by decide)) ?_
      refine S.of1 (pc2 := 147) (fun Q => g_goto d_M_saysBy_142 rfl) ?_
      exact S.ret (fun Q hq => g_iret rfl d_M_saysBy_147 hq)
  · refine S.of1 (pc2 := 132) (fun Q => g_iconst (v := (0 : Int32)) d_M_saysBy_131 (by decide)) ?_
    refine S.of1 (pc2 := 147) (fun Q => g_goto d_M_saysBy_132 rfl) ?_
    exact S.ret (fun Q hq => g_iret rfl d_M_saysBy_147 hq)
def f_M_saysBy_j43 (v1 : Int32) (v2 : Int32) (v3 : Int32) (s0 : Int32) (σ : gS) : Option (Int32 × gS) :=
  if (σ.1 59 10) < 0 then f_M_saysBy_j126 s0 σ else gup (gpi σ 66 0 v2) fun s8 => if gix ((10 : Int32) + v1) 43 then gup (gpi s8 66 1 (s8.1 60 ((10 : Int32) + v1).toNatClampNeg)) fun s10 => if gix v1 43 then gup (gpi s10 66 2 (s10.1 60 v1.toNatClampNeg)) fun s12 => if gix ((20 : Int32) + v1) 43 then gup (gpi s12 66 3 (s12.1 60 ((20 : Int32) + v1).toNatClampNeg)) fun s14 => gup (gpi s14 66 4 v3) fun s15 => gup (gpi s15 66 5 v1) fun s16 => (f_M_workOut (0 : Int32) (s16.1 59 10) s16).bind fun q17 => f_M_saysBy_j126 q17.1 q17.2 else none else none else none
theorem s_M_saysBy_j43 (d : Nat) (hd : 57 ≤ d) (v1 : Int32) (v2 : Int32) (v3 : Int32) (s0 : Int32) (σ : gS) : S wI m_M_saysBy d 43 [some (.ref 59), some (.int v1), some (.int v2), some (.int v3), none] [.int s0] σ (f_M_saysBy_j43 v1 v2 v3 s0 σ) := by
  unfold f_M_saysBy_j43
  refine S.of1 (pc2 := 45) (L2 := [some (.ref 59), some (.int v1), some (.int v2), some (.int v3), some (.int s0)]) (fun Q => g_istore d_M_saysBy_43 (Nat.le_of_ble_eq_true rfl) rfl) ?_
  refine S.of1 (pc2 := 46) (fun Q => g_aload_n d_M_saysBy_45 rfl) ?_
  refine S.of1 (pc2 := 49) (fun Q => g_geti fl_RX11_71 gc_59_10 d_M_saysBy_46) ?_
  refine S.br (c := (σ.1 59 10) < 0) (t := 126) (e := 52) (fun Q kt kf => g_if_lt d_M_saysBy_49 rfl kt kf) (fun h5 => ?_) (fun h5 => ?_)
  · exact S.wk (L2 := [none, none, none, none, some (.int s0)]) (And.intro rfl trivial) (s_M_saysBy_j126 d hd s0 σ)
  · refine S.of1 (pc2 := 53) (fun Q => g_aload_n d_M_saysBy_52 rfl) ?_
    refine S.of1 (pc2 := 56) (fun Q => g_getr fl_RX11_28 gc_59_16 d_M_saysBy_53) ?_
    refine S.of1 (pc2 := 57) (fun Q => g_iconst (v := (0 : Int32)) d_M_saysBy_56 (by decide)) ?_
    refine S.of1 (pc2 := 58) (fun Q => g_iload_n d_M_saysBy_57 rfl) ?_
    refine S.of1 (pc2 := 59) (fun Q => g_iast ga_66 (vp_lit rfl) d_M_saysBy_58) ?_
    refine S.gup (fun s8 => ?_)
    refine S.of1 (pc2 := 60) (fun Q => g_aload_n d_M_saysBy_59 rfl) ?_
    refine S.of1 (pc2 := 63) (fun Q => g_getr fl_RX11_28 gc_59_16 d_M_saysBy_60) ?_
    refine S.of1 (pc2 := 64) (fun Q => g_iconst (v := (1 : Int32)) d_M_saysBy_63 (by decide)) ?_
    refine S.of1 (pc2 := 65) (fun Q => g_aload_n d_M_saysBy_64 rfl) ?_
    refine S.of1 (pc2 := 68) (fun Q => g_getr fl_RX11_9 gc_59_0 d_M_saysBy_65) ?_
    refine S.of1 (pc2 := 70) (fun Q => g_bipush (v := (10 : Int32)) d_M_saysBy_68 (by decide)) ?_
    refine S.of1 (pc2 := 71) (fun Q => g_iload_n d_M_saysBy_70 rfl) ?_
    refine S.of1 (pc2 := 72) (fun Q => g_iadd d_M_saysBy_71) ?_
    refine S.chk (fun h9 => ?_)
    refine S.of1 (pc2 := 73) (fun Q => g_iald ga_60 (gix_in h9) d_M_saysBy_72) ?_
    refine S.of1 (pc2 := 74) (fun Q => g_iast ga_66 (vp_lit rfl) d_M_saysBy_73) ?_
    refine S.gup (fun s10 => ?_)
    refine S.of1 (pc2 := 75) (fun Q => g_aload_n d_M_saysBy_74 rfl) ?_
    refine S.of1 (pc2 := 78) (fun Q => g_getr fl_RX11_28 gc_59_16 d_M_saysBy_75) ?_
    refine S.of1 (pc2 := 79) (fun Q => g_iconst (v := (2 : Int32)) d_M_saysBy_78 (by decide)) ?_
    refine S.of1 (pc2 := 80) (fun Q => g_aload_n d_M_saysBy_79 rfl) ?_
    refine S.of1 (pc2 := 83) (fun Q => g_getr fl_RX11_9 gc_59_0 d_M_saysBy_80) ?_
    refine S.of1 (pc2 := 84) (fun Q => g_iload_n d_M_saysBy_83 rfl) ?_
    refine S.chk (fun h11 => ?_)
    refine S.of1 (pc2 := 85) (fun Q => g_iald ga_60 (gix_in h11) d_M_saysBy_84) ?_
    refine S.of1 (pc2 := 86) (fun Q => g_iast ga_66 (vp_lit rfl) d_M_saysBy_85) ?_
    refine S.gup (fun s12 => ?_)
    refine S.of1 (pc2 := 87) (fun Q => g_aload_n d_M_saysBy_86 rfl) ?_
    refine S.of1 (pc2 := 90) (fun Q => g_getr fl_RX11_28 gc_59_16 d_M_saysBy_87) ?_
    refine S.of1 (pc2 := 91) (fun Q => g_iconst (v := (3 : Int32)) d_M_saysBy_90 (by decide)) ?_
    refine S.of1 (pc2 := 92) (fun Q => g_aload_n d_M_saysBy_91 rfl) ?_
    refine S.of1 (pc2 := 95) (fun Q => g_getr fl_RX11_9 gc_59_0 d_M_saysBy_92) ?_
    refine S.of1 (pc2 := 97) (fun Q => g_bipush (v := (20 : Int32)) d_M_saysBy_95 (by decide)) ?_
    refine S.of1 (pc2 := 98) (fun Q => g_iload_n d_M_saysBy_97 rfl) ?_
    refine S.of1 (pc2 := 99) (fun Q => g_iadd d_M_saysBy_98) ?_
    refine S.chk (fun h13 => ?_)
    refine S.of1 (pc2 := 100) (fun Q => g_iald ga_60 (gix_in h13) d_M_saysBy_99) ?_
    refine S.of1 (pc2 := 101) (fun Q => g_iast ga_66 (vp_lit rfl) d_M_saysBy_100) ?_
    refine S.gup (fun s14 => ?_)
    refine S.of1 (pc2 := 102) (fun Q => g_aload_n d_M_saysBy_101 rfl) ?_
    refine S.of1 (pc2 := 105) (fun Q => g_getr fl_RX11_28 gc_59_16 d_M_saysBy_102) ?_
    refine S.of1 (pc2 := 106) (fun Q => g_iconst (v := (4 : Int32)) d_M_saysBy_105 (by decide)) ?_
    refine S.of1 (pc2 := 107) (fun Q => g_iload_n d_M_saysBy_106 rfl) ?_
    refine S.of1 (pc2 := 108) (fun Q => g_iast ga_66 (vp_lit rfl) d_M_saysBy_107) ?_
    refine S.gup (fun s15 => ?_)
    refine S.of1 (pc2 := 109) (fun Q => g_aload_n d_M_saysBy_108 rfl) ?_
    refine S.of1 (pc2 := 112) (fun Q => g_getr fl_RX11_28 gc_59_16 d_M_saysBy_109) ?_
    refine S.of1 (pc2 := 113) (fun Q => g_iconst (v := (5 : Int32)) d_M_saysBy_112 (by decide)) ?_
    refine S.of1 (pc2 := 114) (fun Q => g_iload_n d_M_saysBy_113 rfl) ?_
    refine S.of1 (pc2 := 115) (fun Q => g_iast ga_66 (vp_lit rfl) d_M_saysBy_114) ?_
    refine S.gup (fun s16 => ?_)
    refine S.of1 (pc2 := 116) (fun Q => g_aload_n d_M_saysBy_115 rfl) ?_
    refine S.of1 (pc2 := 117) (fun Q => g_iconst (v := (0 : Int32)) d_M_saysBy_116 (by decide)) ?_
    refine S.of1 (pc2 := 118) (fun Q => g_aload_n d_M_saysBy_117 rfl) ?_
    refine S.of1 (pc2 := 121) (fun Q => g_geti fl_RX11_71 gc_59_10 d_M_saysBy_118) ?_
    refine S.call_wI (pc3 := 124) rfl (c_M_workOut (d - 1) (by omega) (0 : Int32) (s16.1 59 10) s16) (fun Q => g_callV (M2 := m_M_workOut) (vs := [.int (0 : Int32), .int (s16.1 59 10)]) (st := []) lv_RX11_188 gk_59 rfl rfl (Nat.le_of_ble_eq_true rfl) (by omega) (Nat.le_of_ble_eq_true rfl) rfl d_M_saysBy_121) (fun q17 => ?_)
    refine S.of1 (pc2 := 126) (L2 := [some (.ref 59), some (.int v1), some (.int v2), some (.int v3), some (.int q17.1)]) (fun Q => g_istore d_M_saysBy_124 (Nat.le_of_ble_eq_true rfl) rfl) ?_
    exact S.wk (L2 := [none, none, none, none, some (.int q17.1)]) (And.intro rfl trivial) (s_M_saysBy_j126 d hd q17.1 q17.2)
def f_M_saysBy (v1 : Int32) (v2 : Int32) (v3 : Int32) (σ : gS) : Option (Int32 × gS) :=
  if gix ((30 : Int32) + v1) 43 then if (σ.1 60 ((30 : Int32) + v1).toNatClampNeg) < 0 then if gix ((10 : Int32) + v1) 43 then if (σ.1 60 ((10 : Int32) + v1).toNatClampNeg) < (6 : Int32) then f_M_saysBy_j43 v1 v2 v3 (v2 + (1 : Int32)) σ else f_M_saysBy_j43 v1 v2 v3 v2 σ else none else if gix ((30 : Int32) + v1) 43 then some ((σ.1 60 ((30 : Int32) + v1).toNatClampNeg), σ) else none else none
theorem c_M_saysBy (d : Nat) (hd : 57 ≤ d) (v1 : Int32) (v2 : Int32) (v3 : Int32) (σ : gS) : C wI d m_M_saysBy [.ref 59, .int v1, .int v2, .int v3] σ (f_M_saysBy v1 v2 v3 σ) := by
  unfold f_M_saysBy
  refine C.of (by decide +kernel) (Nat.le_of_ble_eq_true rfl) (L := [some (.ref 59), some (.int v1), some (.int v2), some (.int v3), none]) rfl ?_
  refine S.of1 (pc2 := 1) (fun Q => g_aload_n d_M_saysBy_0 rfl) ?_
  refine S.of1 (pc2 := 4) (fun Q => g_getr fl_RX11_9 gc_59_0 d_M_saysBy_1) ?_
  refine S.of1 (pc2 := 6) (fun Q => g_bipush (v := (30 : Int32)) d_M_saysBy_4 (by decide)) ?_
  refine S.of1 (pc2 := 7) (fun Q => g_iload_n d_M_saysBy_6 rfl) ?_
  refine S.of1 (pc2 := 8) (fun Q => g_iadd d_M_saysBy_7) ?_
  refine S.chk (fun h1 => ?_)
  refine S.of1 (pc2 := 9) (fun Q => g_iald ga_60 (gix_in h1) d_M_saysBy_8) ?_
  refine S.br (c := (σ.1 60 ((30 : Int32) + v1).toNatClampNeg) < 0) (t := 22) (e := 12) (fun Q kt kf => g_if_lt d_M_saysBy_9 rfl kt kf) (fun h2 => ?_) (fun h2 => ?_)
  · refine S.of1 (pc2 := 23) (fun Q => g_aload_n d_M_saysBy_22 rfl) ?_
    refine S.of1 (pc2 := 26) (fun Q => g_getr fl_RX11_9 gc_59_0 d_M_saysBy_23) ?_
    refine S.of1 (pc2 := 28) (fun Q => g_bipush (v := (10 : Int32)) d_M_saysBy_26 (by decide)) ?_
    refine S.of1 (pc2 := 29) (fun Q => g_iload_n d_M_saysBy_28 rfl) ?_
    refine S.of1 (pc2 := 30) (fun Q => g_iadd d_M_saysBy_29) ?_
    refine S.chk (fun h3 => ?_)
    refine S.of1 (pc2 := 31) (fun Q => g_iald ga_60 (gix_in h3) d_M_saysBy_30) ?_
    refine S.of1 (pc2 := 33) (fun Q => g_bipush (v := (6 : Int32)) d_M_saysBy_31 (by decide)) ?_
    refine S.br (c := (σ.1 60 ((10 : Int32) + v1).toNatClampNeg) < (6 : Int32)) (t := 40) (e := 36) (fun Q kt kf => g_icmp_lt d_M_saysBy_33 rfl kt kf) (fun h4 => ?_) (fun h4 => ?_)
    · refine S.of1 (pc2 := 41) (fun Q => g_iload_n d_M_saysBy_40 rfl) ?_
      refine S.of1 (pc2 := 42) (fun Q => g_iconst (v := (1 : Int32)) d_M_saysBy_41 (by decide)) ?_
      refine S.of1 (pc2 := 43) (fun Q => g_iadd d_M_saysBy_42) ?_
      exact S.wk (L2 := [some (.ref 59), some (.int v1), some (.int v2), some (.int v3), none]) (And.intro rfl (And.intro rfl (And.intro rfl (And.intro rfl trivial)))) (s_M_saysBy_j43 d hd v1 v2 v3 (v2 + (1 : Int32)) σ)
    · refine S.of1 (pc2 := 37) (fun Q => g_iload_n d_M_saysBy_36 rfl) ?_
      refine S.of1 (pc2 := 43) (fun Q => g_goto d_M_saysBy_37 rfl) ?_
      exact S.wk (L2 := [some (.ref 59), some (.int v1), some (.int v2), some (.int v3), none]) (And.intro rfl (And.intro rfl (And.intro rfl (And.intro rfl trivial)))) (s_M_saysBy_j43 d hd v1 v2 v3 v2 σ)
  · refine S.of1 (pc2 := 13) (fun Q => g_aload_n d_M_saysBy_12 rfl) ?_
    refine S.of1 (pc2 := 16) (fun Q => g_getr fl_RX11_9 gc_59_0 d_M_saysBy_13) ?_
    refine S.of1 (pc2 := 18) (fun Q => g_bipush (v := (30 : Int32)) d_M_saysBy_16 (by decide)) ?_
    refine S.of1 (pc2 := 19) (fun Q => g_iload_n d_M_saysBy_18 rfl) ?_
    refine S.of1 (pc2 := 20) (fun Q => g_iadd d_M_saysBy_19) ?_
    refine S.chk (fun h18 => ?_)
    refine S.of1 (pc2 := 21) (fun Q => g_iald ga_60 (gix_in h18) d_M_saysBy_20) ?_
    exact S.ret (fun Q hq => g_iret rfl d_M_saysBy_21 hq)
def f_M_allSay_L2 : Nat → Int32 → Int32 → Int32 → gS → Option gS
  | 0, _, _, _, _ => none
  | n + 1, v1, v2, v3, σ =>
  if (σ.1 59 6) ≤ v3 then some σ else (f_M_saysBy v3 v1 v2 σ).bind fun q2 => if gix v3 10 then gup (gpi q2.2 67 v3.toNatClampNeg q2.1) fun s4 => (fun v1 v2 v3 σ => f_M_allSay_L2 n v1 v2 v3 σ) v1 v2 (v3 + (1 : Int32)) s4 else none
theorem s_M_allSay_L2 (d : Nat) (hd : 58 ≤ d) : ∀ (n : Nat) (v1 : Int32) (v2 : Int32) (v3 : Int32) (σ : gS), S wV m_M_allSay d 2 [some (.ref 59), some (.int v1), some (.int v2), some (.int v3)] [] σ (f_M_allSay_L2 n v1 v2 v3 σ) := by
  intro n
  induction n with
  | zero =>
    intros
    unfold f_M_allSay_L2
    exact S.no
  | succ n ih =>
    intro v1 v2 v3 σ
    unfold f_M_allSay_L2
    refine S.of1 (pc2 := 3) (fun Q => g_iload_n d_M_allSay_2 rfl) ?_
    refine S.of1 (pc2 := 4) (fun Q => g_aload_n d_M_allSay_3 rfl) ?_
    refine S.of1 (pc2 := 7) (fun Q => g_geti fl_RX11_81 gc_59_6 d_M_allSay_4) ?_
    refine S.br (c := (σ.1 59 6) ≤ v3) (t := 29) (e := 10) (fun Q kt kf => g_icmp_ge d_M_allSay_7 rfl kt kf) (fun h1 => ?_) (fun h1 => ?_)
    · exact S.ret (fun Q hq => g_vret rfl d_M_allSay_29 hq)
    · refine S.of1 (pc2 := 11) (fun Q => g_aload_n d_M_allSay_10 rfl) ?_
      refine S.of1 (pc2 := 14) (fun Q => g_getr fl_RX11_31 gc_59_17 d_M_allSay_11) ?_
      refine S.of1 (pc2 := 15) (fun Q => g_iload_n d_M_allSay_14 rfl) ?_
      refine S.of1 (pc2 := 16) (fun Q => g_aload_n d_M_allSay_15 rfl) ?_
      refine S.of1 (pc2 := 17) (fun Q => g_iload_n d_M_allSay_16 rfl) ?_
      refine S.of1 (pc2 := 18) (fun Q => g_iload_n d_M_allSay_17 rfl) ?_
      refine S.of1 (pc2 := 19) (fun Q => g_iload_n d_M_allSay_18 rfl) ?_
      refine S.call_wI (pc3 := 22) rfl (c_M_saysBy (d - 1) (by omega) v3 v1 v2 σ) (fun Q => g_callV (M2 := m_M_saysBy) (vs := [.int v3, .int v1, .int v2]) (st := [.int v3, .ref 67]) lv_RX11_191 gk_59 rfl rfl (Nat.le_of_ble_eq_true rfl) (by omega) (Nat.le_of_ble_eq_true rfl) rfl d_M_allSay_19) (fun q2 => ?_)
      refine S.chk (fun h3 => ?_)
      refine S.of1 (pc2 := 23) (fun Q => g_iast ga_67 (gix_in h3) d_M_allSay_22) ?_
      refine S.gup (fun s4 => ?_)
      refine S.of1 (pc2 := 26) (L2 := [some (.ref 59), some (.int v1), some (.int v2), some (.int (v3 + (1 : Int32)))]) (fun Q => g_iinc d_M_allSay_23 rfl (congrArg (fun z => v3 + z) (by decide)) (Nat.le_of_ble_eq_true rfl) rfl) ?_
      refine S.of1 (pc2 := 2) (fun Q => g_goto d_M_allSay_26 rfl) ?_
      exact S.wk (L2 := [some (.ref 59), some (.int v1), some (.int v2), some (.int (v3 + (1 : Int32)))]) (And.intro rfl (And.intro rfl (And.intro rfl (And.intro rfl trivial)))) (ih v1 v2 (v3 + (1 : Int32)) s4)
def f_M_allSay (v1 : Int32) (v2 : Int32) (σ : gS) : Option gS :=
  f_M_allSay_L2 gfu v1 v2 (0 : Int32) σ
theorem c_M_allSay (d : Nat) (hd : 58 ≤ d) (v1 : Int32) (v2 : Int32) (σ : gS) : C wV d m_M_allSay [.ref 59, .int v1, .int v2] σ (f_M_allSay v1 v2 σ) := by
  unfold f_M_allSay
  refine C.of (by decide +kernel) (Nat.le_of_ble_eq_true rfl) (L := [some (.ref 59), some (.int v1), some (.int v2), none]) rfl ?_
  refine S.of1 (pc2 := 1) (fun Q => g_iconst (v := (0 : Int32)) d_M_allSay_0 (by decide)) ?_
  refine S.of1 (pc2 := 2) (L2 := [some (.ref 59), some (.int v1), some (.int v2), some (.int (0 : Int32))]) (fun Q => g_istore_n d_M_allSay_1 (Nat.le_of_ble_eq_true rfl) rfl) ?_
  exact S.wk (L2 := [some (.ref 59), some (.int v1), some (.int v2), some (.int (0 : Int32))]) (And.intro rfl (And.intro rfl (And.intro rfl (And.intro rfl trivial)))) (s_M_allSay_L2 d hd gfu v1 v2 (0 : Int32) σ)
def f_M_allSayNow (σ : gS) : Option gS :=
  (f_M_allSay (σ.1 60 40) (σ.1 60 42) σ).bind fun s1 => some s1
theorem c_M_allSayNow (d : Nat) (hd : 59 ≤ d) (σ : gS) : C wV d m_M_allSayNow [.ref 59] σ (f_M_allSayNow σ) := by
  unfold f_M_allSayNow
  refine C.of (by decide +kernel) (Nat.le_of_ble_eq_true rfl) (L := [some (.ref 59)]) rfl ?_
  refine S.of1 (pc2 := 1) (fun Q => g_aload_n d_M_allSayNow_0 rfl) ?_
  refine S.of1 (pc2 := 2) (fun Q => g_aload_n d_M_allSayNow_1 rfl) ?_
  refine S.of1 (pc2 := 5) (fun Q => g_getr fl_RX11_9 gc_59_0 d_M_allSayNow_2) ?_
  refine S.of1 (pc2 := 7) (fun Q => g_bipush (v := (40 : Int32)) d_M_allSayNow_5 (by decide)) ?_
  refine S.of1 (pc2 := 8) (fun Q => g_iald ga_60 (vp_lit rfl) d_M_allSayNow_7) ?_
  refine S.of1 (pc2 := 9) (fun Q => g_aload_n d_M_allSayNow_8 rfl) ?_
  refine S.of1 (pc2 := 12) (fun Q => g_getr fl_RX11_9 gc_59_0 d_M_allSayNow_9) ?_
  refine S.of1 (pc2 := 14) (fun Q => g_bipush (v := (42 : Int32)) d_M_allSayNow_12 (by decide)) ?_
  refine S.of1 (pc2 := 15) (fun Q => g_iald ga_60 (vp_lit rfl) d_M_allSayNow_14) ?_
  refine S.call_wV (pc3 := 18) rfl (c_M_allSay (d - 1) (by omega) (σ.1 60 40) (σ.1 60 42) σ) (fun Q => g_callV (M2 := m_M_allSay) (vs := [.int (σ.1 60 40), .int (σ.1 60 42)]) (st := []) lv_RX11_195 gk_59 rfl rfl (Nat.le_of_ble_eq_true rfl) (by omega) (Nat.le_of_ble_eq_true rfl) rfl d_M_allSayNow_15) (fun s1 => ?_)
  exact S.ret (fun Q hq => g_vret rfl d_M_allSayNow_18 hq)
def f_M_agree_j44 (σ : gS) (v1 : Int32) (v2 : Int32) (s0 : Int32) : Option Int32 :=
  if gix v1 43 then if gix v2 43 then if (σ.1 60 v1.toNatClampNeg) = (σ.1 60 v2.toNatClampNeg) then some (0 : Int32) else if (σ.1 60 41) < s0 then some (0 : Int32) else some (1 : Int32) else none else none
theorem s_M_agree_j44 (d : Nat) (hd : 1 ≤ d) (σ : gS) (v1 : Int32) (v2 : Int32) (s0 : Int32) : S (rI σ) m_M_agree d 44 [some (.ref 59), some (.int v1), some (.int v2), none] [.int s0] σ (f_M_agree_j44 σ v1 v2 s0) := by
  unfold f_M_agree_j44
  refine S.of1 (pc2 := 45) (L2 := [some (.ref 59), some (.int v1), some (.int v2), some (.int s0)]) (fun Q => g_istore_n d_M_agree_44 (Nat.le_of_ble_eq_true rfl) rfl) ?_
  refine S.of1 (pc2 := 46) (fun Q => g_aload_n d_M_agree_45 rfl) ?_
  refine S.of1 (pc2 := 49) (fun Q => g_getr fl_RX11_9 gc_59_0 d_M_agree_46) ?_
  refine S.of1 (pc2 := 50) (fun Q => g_iload_n d_M_agree_49 rfl) ?_
  refine S.chk (fun h6 => ?_)
  refine S.of1 (pc2 := 51) (fun Q => g_iald ga_60 (gix_in h6) d_M_agree_50) ?_
  refine S.of1 (pc2 := 52) (fun Q => g_aload_n d_M_agree_51 rfl) ?_
  refine S.of1 (pc2 := 55) (fun Q => g_getr fl_RX11_9 gc_59_0 d_M_agree_52) ?_
  refine S.of1 (pc2 := 56) (fun Q => g_iload_n d_M_agree_55 rfl) ?_
  refine S.chk (fun h7 => ?_)
  refine S.of1 (pc2 := 57) (fun Q => g_iald ga_60 (gix_in h7) d_M_agree_56) ?_
  refine S.br (c := (σ.1 60 v1.toNatClampNeg) = (σ.1 60 v2.toNatClampNeg)) (t := 75) (e := 60) (fun Q kt kf => g_icmp_eq d_M_agree_57 rfl kt kf) (fun h8 => ?_) (fun h8 => ?_)
  · refine S.of1 (pc2 := 76) (fun Q => g_iconst (v := (0 : Int32)) d_M_agree_75 (by decide)) ?_
    exact S.ret (fun Q hq => g_zret rfl rfl d_M_agree_76 hq)
  · refine S.of1 (pc2 := 61) (fun Q => g_iload_n d_M_agree_60 rfl) ?_
    refine S.of1 (pc2 := 62) (fun Q => g_aload_n d_M_agree_61 rfl) ?_
    refine S.of1 (pc2 := 65) (fun Q => g_getr fl_RX11_9 gc_59_0 d_M_agree_62) ?_
    refine S.of1 (pc2 := 67) (fun Q => g_bipush (v := (41 : Int32)) d_M_agree_65 (by decide)) ?_
    refine S.of1 (pc2 := 68) (fun Q => g_iald ga_60 (vp_lit rfl) d_M_agree_67) ?_
    refine S.br (c := (σ.1 60 41) < s0) (t := 75) (e := 71) (fun Q kt kf => g_icmp_gt d_M_agree_68 rfl kt kf) (fun h9 => ?_) (fun h9 => ?_)
    · refine S.of1 (pc2 := 76) (fun Q => g_iconst (v := (0 : Int32)) d_M_agree_75 (by decide)) ?_
      exact S.ret (fun Q hq => g_zret rfl rfl d_M_agree_76 hq)
    · refine S.of1 (pc2 := 72) (fun Q => g_iconst (v := (1 : Int32)) d_M_agree_71 (by decide)) ?_
      refine S.of1 (pc2 := 76) (fun Q => g_goto d_M_agree_72 rfl) ?_
      exact S.ret (fun Q hq => g_zret rfl rfl d_M_agree_76 hq)
def f_M_agree (v1 : Int32) (v2 : Int32) (σ : gS) : Option Int32 :=
  if gix v1 10 then if gix v2 10 then if (σ.1 67 v1.toNatClampNeg) ≤ (σ.1 67 v2.toNatClampNeg) then if gix v2 10 then if gix v1 10 then f_M_agree_j44 σ v1 v2 ((σ.1 67 v2.toNatClampNeg) - (σ.1 67 v1.toNatClampNeg)) else none else none else if gix v1 10 then if gix v2 10 then f_M_agree_j44 σ v1 v2 ((σ.1 67 v1.toNatClampNeg) - (σ.1 67 v2.toNatClampNeg)) else none else none else none else none
theorem c_M_agree (d : Nat) (hd : 1 ≤ d) (v1 : Int32) (v2 : Int32) (σ : gS) : C (rI σ) d m_M_agree [.ref 59, .int v1, .int v2] σ (f_M_agree v1 v2 σ) := by
  unfold f_M_agree
  refine C.of (by decide +kernel) (Nat.le_of_ble_eq_true rfl) (L := [some (.ref 59), some (.int v1), some (.int v2), none]) rfl ?_
  refine S.of1 (pc2 := 1) (fun Q => g_aload_n d_M_agree_0 rfl) ?_
  refine S.of1 (pc2 := 4) (fun Q => g_getr fl_RX11_31 gc_59_17 d_M_agree_1) ?_
  refine S.of1 (pc2 := 5) (fun Q => g_iload_n d_M_agree_4 rfl) ?_
  refine S.chk (fun h1 => ?_)
  refine S.of1 (pc2 := 6) (fun Q => g_iald ga_67 (gix_in h1) d_M_agree_5) ?_
  refine S.of1 (pc2 := 7) (fun Q => g_aload_n d_M_agree_6 rfl) ?_
  refine S.of1 (pc2 := 10) (fun Q => g_getr fl_RX11_31 gc_59_17 d_M_agree_7) ?_
  refine S.of1 (pc2 := 11) (fun Q => g_iload_n d_M_agree_10 rfl) ?_
  refine S.chk (fun h2 => ?_)
  refine S.of1 (pc2 := 12) (fun Q => g_iald ga_67 (gix_in h2) d_M_agree_11) ?_
  refine S.br (c := (σ.1 67 v1.toNatClampNeg) ≤ (σ.1 67 v2.toNatClampNeg)) (t := 31) (e := 15) (fun Q kt kf => g_icmp_le d_M_agree_12 rfl kt kf) (fun h3 => ?_) (fun h3 => ?_)
  · refine S.of1 (pc2 := 32) (fun Q => g_aload_n d_M_agree_31 rfl) ?_
    refine S.of1 (pc2 := 35) (fun Q => g_getr fl_RX11_31 gc_59_17 d_M_agree_32) ?_
    refine S.of1 (pc2 := 36) (fun Q => g_iload_n d_M_agree_35 rfl) ?_
    refine S.chk (fun h4 => ?_)
    refine S.of1 (pc2 := 37) (fun Q => g_iald ga_67 (gix_in h4) d_M_agree_36) ?_
    refine S.of1 (pc2 := 38) (fun Q => g_aload_n d_M_agree_37 rfl) ?_
    refine S.of1 (pc2 := 41) (fun Q => g_getr fl_RX11_31 gc_59_17 d_M_agree_38) ?_
    refine S.of1 (pc2 := 42) (fun Q => g_iload_n d_M_agree_41 rfl) ?_
    refine S.chk (fun h5 => ?_)
    refine S.of1 (pc2 := 43) (fun Q => g_iald ga_67 (gix_in h5) d_M_agree_42) ?_
    refine S.of1 (pc2 := 44) (fun Q => g_isub d_M_agree_43) ?_
    exact S.wk (L2 := [some (.ref 59), some (.int v1), some (.int v2), none]) (And.intro rfl (And.intro rfl (And.intro rfl trivial))) (s_M_agree_j44 d hd σ v1 v2 ((σ.1 67 v2.toNatClampNeg) - (σ.1 67 v1.toNatClampNeg)))
  · refine S.of1 (pc2 := 16) (fun Q => g_aload_n d_M_agree_15 rfl) ?_
    refine S.of1 (pc2 := 19) (fun Q => g_getr fl_RX11_31 gc_59_17 d_M_agree_16) ?_
    refine S.of1 (pc2 := 20) (fun Q => g_iload_n d_M_agree_19 rfl) ?_
    refine S.chk (fun h10 => ?_)
    refine S.of1 (pc2 := 21) (fun Q => g_iald ga_67 (gix_in h10) d_M_agree_20) ?_
    refine S.of1 (pc2 := 22) (fun Q => g_aload_n d_M_agree_21 rfl) ?_
    refine S.of1 (pc2 := 25) (fun Q => g_getr fl_RX11_31 gc_59_17 d_M_agree_22) ?_
    refine S.of1 (pc2 := 26) (fun Q => g_iload_n d_M_agree_25 rfl) ?_
    refine S.chk (fun h11 => ?_)
    refine S.of1 (pc2 := 27) (fun Q => g_iald ga_67 (gix_in h11) d_M_agree_26) ?_
    refine S.of1 (pc2 := 28) (fun Q => g_isub d_M_agree_27) ?_
    refine S.of1 (pc2 := 44) (fun Q => g_goto d_M_agree_28 rfl) ?_
    exact S.wk (L2 := [some (.ref 59), some (.int v1), some (.int v2), none]) (And.intro rfl (And.intro rfl (And.intro rfl trivial))) (s_M_agree_j44 d hd σ v1 v2 ((σ.1 67 v1.toNatClampNeg) - (σ.1 67 v2.toNatClampNeg)))
def f_M_agreedOn (v1 : Int32) (v2 : Int32) (σ : gS) : Option Int32 :=
  if gix v1 10 then if gix v2 10 then if (σ.1 67 v2.toNatClampNeg) ≤ (σ.1 67 v1.toNatClampNeg) then if gix v2 10 then some (σ.1 67 v2.toNatClampNeg) else none else if gix v1 10 then some (σ.1 67 v1.toNatClampNeg) else none else none else none
theorem c_M_agreedOn (d : Nat) (hd : 1 ≤ d) (v1 : Int32) (v2 : Int32) (σ : gS) : C (rI σ) d m_M_agreedOn [.ref 59, .int v1, .int v2] σ (f_M_agreedOn v1 v2 σ) := by
  unfold f_M_agreedOn
  refine C.of (by decide +kernel) (Nat.le_of_ble_eq_true rfl) (L := [some (.ref 59), some (.int v1), some (.int v2)]) rfl ?_
  refine S.of1 (pc2 := 1) (fun Q => g_aload_n d_M_agreedOn_0 rfl) ?_
  refine S.of1 (pc2 := 4) (fun Q => g_getr fl_RX11_31 gc_59_17 d_M_agreedOn_1) ?_
  refine S.of1 (pc2 := 5) (fun Q => g_iload_n d_M_agreedOn_4 rfl) ?_
  refine S.chk (fun h1 => ?_)
  refine S.of1 (pc2 := 6) (fun Q => g_iald ga_67 (gix_in h1) d_M_agreedOn_5) ?_
  refine S.of1 (pc2 := 7) (fun Q => g_aload_n d_M_agreedOn_6 rfl) ?_
  refine S.of1 (pc2 := 10) (fun Q => g_getr fl_RX11_31 gc_59_17 d_M_agreedOn_7) ?_
  refine S.of1 (pc2 := 11) (fun Q => g_iload_n d_M_agreedOn_10 rfl) ?_
  refine S.chk (fun h2 => ?_)
  refine S.of1 (pc2 := 12) (fun Q => g_iald ga_67 (gix_in h2) d_M_agreedOn_11) ?_
  refine S.br (c := (σ.1 67 v2.toNatClampNeg) ≤ (σ.1 67 v1.toNatClampNeg)) (t := 24) (e := 15) (fun Q kt kf => g_icmp_ge d_M_agreedOn_12 rfl kt kf) (fun h3 => ?_) (fun h3 => ?_)
  · refine S.of1 (pc2 := 25) (fun Q => g_aload_n d_M_agreedOn_24 rfl) ?_
    refine S.of1 (pc2 := 28) (fun Q => g_getr fl_RX11_31 gc_59_17 d_M_agreedOn_25) ?_
    refine S.of1 (pc2 := 29) (fun Q => g_iload_n d_M_agreedOn_28 rfl) ?_
    refine S.chk (fun h4 => ?_)
    refine S.of1 (pc2 := 30) (fun Q => g_iald ga_67 (gix_in h4) d_M_agreedOn_29) ?_
    exact S.ret (fun Q hq => g_iret rfl d_M_agreedOn_30 hq)
  · refine S.of1 (pc2 := 16) (fun Q => g_aload_n d_M_agreedOn_15 rfl) ?_
    refine S.of1 (pc2 := 19) (fun Q => g_getr fl_RX11_31 gc_59_17 d_M_agreedOn_16) ?_
    refine S.of1 (pc2 := 20) (fun Q => g_iload_n d_M_agreedOn_19 rfl) ?_
    refine S.chk (fun h5 => ?_)
    refine S.of1 (pc2 := 21) (fun Q => g_iald ga_67 (gix_in h5) d_M_agreedOn_20) ?_
    refine S.of1 (pc2 := 30) (fun Q => g_goto d_M_agreedOn_21 rfl) ?_
    exact S.ret (fun Q hq => g_iret rfl d_M_agreedOn_30 hq)
def f_M_happenedBy_j62 (σ : gS) (k4 : Int32 → Int32 → Int32 → Option Int32) (k15 : Int32 → Int32 → Int32 → Int32 → Option Int32) (v1 : Int32) (v3 : Int32) (v4 : Int32) (s0 : Int32) (s1 : Int32) : Option Int32 :=
  k15 v1 (s1 ||| s0) v3 (v4 + (1 : Int32))
theorem s_M_happenedBy_j62 (d : Nat) (hd : 2 ≤ d) (σ : gS) (k4 : Int32 → Int32 → Int32 → Option Int32) (hk4 : ∀ (v1 : Int32) (v2 : Int32) (v3 : Int32), S (rI σ) m_M_happenedBy d 4 [some (.ref 59), some (.int v1), some (.int v2), some (.int v3), none] [] σ (k4 v1 v2 v3)) (k15 : Int32 → Int32 → Int32 → Int32 → Option Int32) (hk15 : ∀ (v1 : Int32) (v2 : Int32) (v3 : Int32) (v4 : Int32), S (rI σ) m_M_happenedBy d 15 [some (.ref 59), some (.int v1), some (.int v2), some (.int v3), some (.int v4)] [] σ (k15 v1 v2 v3 v4)) (v1 : Int32) (v3 : Int32) (v4 : Int32) (s0 : Int32) (s1 : Int32) : S (rI σ) m_M_happenedBy d 62 [some (.ref 59), some (.int v1), none, some (.int v3), some (.int v4)] [.int s0, .int s1] σ (f_M_happenedBy_j62 σ k4 k15 v1 v3 v4 s0 s1) := by
  unfold f_M_happenedBy_j62
  refine S.of1 (pc2 := 63) (fun Q => g_ior d_M_happenedBy_62) ?_
  refine S.of1 (pc2 := 64) (L2 := [some (.ref 59), some (.int v1), some (.int (s1 ||| s0)), some (.int v3), some (.int v4)]) (fun Q => g_istore_n d_M_happenedBy_63 (Nat.le_of_ble_eq_true rfl) rfl) ?_
  refine S.of1 (pc2 := 67) (L2 := [some (.ref 59), some (.int v1), some (.int (s1 ||| s0)), some (.int v3), some (.int (v4 + (1 : Int32)))]) (fun Q => g_iinc d_M_happenedBy_64 rfl (congrArg (fun z => v4 + z) (by decide)) (Nat.le_of_ble_eq_true rfl) rfl) ?_
  refine S.of1 (pc2 := 15) (fun Q => g_goto d_M_happenedBy_67 rfl) ?_
  exact S.wk (L2 := [some (.ref 59), some (.int v1), some (.int (s1 ||| s0)), some (.int v3), some (.int (v4 + (1 : Int32)))]) (And.intro rfl (And.intro rfl (And.intro rfl (And.intro rfl (And.intro rfl trivial))))) (hk15 v1 (s1 ||| s0) v3 (v4 + (1 : Int32)))
def f_M_happenedBy_j61 (σ : gS) (k4 : Int32 → Int32 → Int32 → Option Int32) (k15 : Int32 → Int32 → Int32 → Int32 → Option Int32) (v1 : Int32) (v3 : Int32) (v4 : Int32) (s0 : Int32) : Option Int32 :=
  f_M_happenedBy_j62 σ k4 k15 v1 v3 v4 (0 : Int32) s0
theorem s_M_happenedBy_j61 (d : Nat) (hd : 2 ≤ d) (σ : gS) (k4 : Int32 → Int32 → Int32 → Option Int32) (hk4 : ∀ (v1 : Int32) (v2 : Int32) (v3 : Int32), S (rI σ) m_M_happenedBy d 4 [some (.ref 59), some (.int v1), some (.int v2), some (.int v3), none] [] σ (k4 v1 v2 v3)) (k15 : Int32 → Int32 → Int32 → Int32 → Option Int32) (hk15 : ∀ (v1 : Int32) (v2 : Int32) (v3 : Int32) (v4 : Int32), S (rI σ) m_M_happenedBy d 15 [some (.ref 59), some (.int v1), some (.int v2), some (.int v3), some (.int v4)] [] σ (k15 v1 v2 v3 v4)) (v1 : Int32) (v3 : Int32) (v4 : Int32) (s0 : Int32) : S (rI σ) m_M_happenedBy d 61 [some (.ref 59), some (.int v1), none, some (.int v3), some (.int v4)] [.int s0] σ (f_M_happenedBy_j61 σ k4 k15 v1 v3 v4 s0) := by
  unfold f_M_happenedBy_j61
  refine S.of1 (pc2 := 62) (fun Q => g_iconst (v := (0 : Int32)) d_M_happenedBy_61 (by decide)) ?_
  exact S.wk (L2 := [some (.ref 59), some (.int v1), none, some (.int v3), some (.int v4)]) (And.intro rfl (And.intro rfl (And.intro rfl (And.intro rfl trivial)))) (s_M_happenedBy_j62 d hd σ k4 hk4 k15 hk15 v1 v3 v4 (0 : Int32) s0)
def f_M_happenedBy_L15 (σ : gS) (k4 : Int32 → Int32 → Int32 → Option Int32) : Nat → Int32 → Int32 → Int32 → Int32 → Option Int32
  | 0, _, _, _, _ => none
  | n + 1, v1, v2, v3, v4 =>
  if v3 ≤ v4 then k4 v1 v2 (v3 + (1 : Int32)) else (f_M_isIn v1 v3).bind fun q3 => if q3 = 0 then f_M_happenedBy_j61 σ k4 (fun v1 v2 v3 v4 => f_M_happenedBy_L15 σ k4 n v1 v2 v3 v4) v1 v3 v4 v2 else (f_M_isIn v1 v4).bind fun q5 => if q5 = 0 then f_M_happenedBy_j61 σ k4 (fun v1 v2 v3 v4 => f_M_happenedBy_L15 σ k4 n v1 v2 v3 v4) v1 v3 v4 v2 else (f_M_agree v3 v4 σ).bind fun q7 => if q7 = 0 then f_M_happenedBy_j61 σ k4 (fun v1 v2 v3 v4 => f_M_happenedBy_L15 σ k4 n v1 v2 v3 v4) v1 v3 v4 v2 else (f_M_agreedOn v3 v4 σ).bind fun q9 => f_M_happenedBy_j62 σ k4 (fun v1 v2 v3 v4 => f_M_happenedBy_L15 σ k4 n v1 v2 v3 v4) v1 v3 v4 ((1 : Int32) <<< (q9 &&& 31)) v2
theorem s_M_happenedBy_L15 (d : Nat) (hd : 2 ≤ d) (σ : gS) (k4 : Int32 → Int32 → Int32 → Option Int32) (hk4 : ∀ (v1 : Int32) (v2 : Int32) (v3 : Int32), S (rI σ) m_M_happenedBy d 4 [some (.ref 59), some (.int v1), some (.int v2), some (.int v3), none] [] σ (k4 v1 v2 v3)) : ∀ (n : Nat) (v1 : Int32) (v2 : Int32) (v3 : Int32) (v4 : Int32), S (rI σ) m_M_happenedBy d 15 [some (.ref 59), some (.int v1), some (.int v2), some (.int v3), some (.int v4)] [] σ (f_M_happenedBy_L15 σ k4 n v1 v2 v3 v4) := by
  intro n
  induction n with
  | zero =>
    intros
    unfold f_M_happenedBy_L15
    exact S.no
  | succ n ih =>
    intro v1 v2 v3 v4
    unfold f_M_happenedBy_L15
    refine S.of1 (pc2 := 17) (fun Q => g_iload d_M_happenedBy_15 rfl) ?_
    refine S.of1 (pc2 := 18) (fun Q => g_iload_n d_M_happenedBy_17 rfl) ?_
    refine S.br (c := v3 ≤ v4) (t := 70) (e := 21) (fun Q kt kf => g_icmp_ge d_M_happenedBy_18 rfl kt kf) (fun h2 => ?_) (fun h2 => ?_)
    · refine S.of1 (pc2 := 73) (L2 := [some (.ref 59), some (.int v1), some (.int v2), some (.int (v3 + (1 : Int32))), some (.int v4)]) (fun Q => g_iinc d_M_happenedBy_70 rfl (congrArg (fun z => v3 + z) (by decide)) (Nat.le_of_ble_eq_true rfl) rfl) ?_
      refine S.of1 (pc2 := 4) (fun Q => g_goto d_M_happenedBy_73 rfl) ?_
      exact S.wk (L2 := [some (.ref 59), some (.int v1), some (.int v2), some (.int (v3 + (1 : Int32))), none]) (And.intro rfl (And.intro rfl (And.intro rfl (And.intro rfl trivial)))) (hk4 v1 v2 (v3 + (1 : Int32)))
    · refine S.of1 (pc2 := 22) (fun Q => g_iload_n d_M_happenedBy_21 rfl) ?_
      refine S.of1 (pc2 := 23) (fun Q => g_iload_n d_M_happenedBy_22 rfl) ?_
      refine S.of1 (pc2 := 24) (fun Q => g_iload_n d_M_happenedBy_23 rfl) ?_
      refine S.call_rI (pc3 := 27) rfl (c_M_isIn (d - 1) (by omega) v1 v3 σ) (fun Q => g_callS (M2 := m_M_isIn) (vs := [.int v1, .int v3]) (st := [.int v2]) ls_RX11_199 rfl (Nat.le_of_ble_eq_true rfl) (by omega) (Nat.le_of_ble_eq_true rfl) rfl d_M_happenedBy_24) (fun q3 => ?_)
      refine S.br (c := q3 = 0) (t := 61) (e := 30) (fun Q kt kf => g_if_eq d_M_happenedBy_27 rfl kt kf) (fun h4 => ?_) (fun h4 => ?_)
      · exact S.wk (L2 := [some (.ref 59), some (.int v1), none, some (.int v3), some (.int v4)]) (And.intro rfl (And.intro rfl (And.intro rfl (And.intro rfl trivial)))) (s_M_happenedBy_j61 d hd σ k4 hk4 (fun v1 v2 v3 v4 => f_M_happenedBy_L15 σ k4 n v1 v2 v3 v4) (fun v1 v2 v3 v4 => ih v1 v2 v3 v4) v1 v3 v4 v2)
      · refine S.of1 (pc2 := 31) (fun Q => g_iload_n d_M_happenedBy_30 rfl) ?_
        refine S.of1 (pc2 := 33) (fun Q => g_iload d_M_happenedBy_31 rfl) ?_
        refine S.call_rI (pc3 := 36) rfl (c_M_isIn (d - 1) (by omega) v1 v4 σ) (fun Q => g_callS (M2 := m_M_isIn) (vs := [.int v1, .int v4]) (st := [.int v2]) ls_RX11_199 rfl (Nat.le_of_ble_eq_true rfl) (by omega) (Nat.le_of_ble_eq_true rfl) rfl d_M_happenedBy_33) (fun q5 => ?_)
        refine S.br (c := q5 = 0) (t := 61) (e := 39) (fun Q kt kf => g_if_eq d_M_happenedBy_36 rfl kt kf) (fun h6 => ?_) (fun h6 => ?_)
        · exact S.wk (L2 := [some (.ref 59), some (.int v1), none, some (.int v3), some (.int v4)]) (And.intro rfl (And.intro rfl (And.intro rfl (And.intro rfl trivial)))) (s_M_happenedBy_j61 d hd σ k4 hk4 (fun v1 v2 v3 v4 => f_M_happenedBy_L15 σ k4 n v1 v2 v3 v4) (fun v1 v2 v3 v4 => ih v1 v2 v3 v4) v1 v3 v4 v2)
        · refine S.of1 (pc2 := 40) (fun Q => g_aload_n d_M_happenedBy_39 rfl) ?_
          refine S.of1 (pc2 := 41) (fun Q => g_iload_n d_M_happenedBy_40 rfl) ?_
          refine S.of1 (pc2 := 43) (fun Q => g_iload d_M_happenedBy_41 rfl) ?_
          refine S.call_rI (pc3 := 46) rfl (c_M_agree (d - 1) (by omega) v3 v4 σ) (fun Q => g_callV (M2 := m_M_agree) (vs := [.int v3, .int v4]) (st := [.int v2]) lv_RX11_202 gk_59 rfl rfl (Nat.le_of_ble_eq_true rfl) (by omega) (Nat.le_of_ble_eq_true rfl) rfl d_M_happenedBy_43) (fun q7 => ?_)
          refine S.br (c := q7 = 0) (t := 61) (e := 49) (fun Q kt kf => g_if_eq d_M_happenedBy_46 rfl kt kf) (fun h8 => ?_) (fun h8 => ?_)
          · exact S.wk (L2 := [some (.ref 59), some (.int v1), none, some (.int v3), some (.int v4)]) (And.intro rfl (And.intro rfl (And.intro rfl (And.intro rfl trivial)))) (s_M_happenedBy_j61 d hd σ k4 hk4 (fun v1 v2 v3 v4 => f_M_happenedBy_L15 σ k4 n v1 v2 v3 v4) (fun v1 v2 v3 v4 => ih v1 v2 v3 v4) v1 v3 v4 v2)
          · refine S.of1 (pc2 := 50) (fun Q => g_iconst (v := (1 : Int32)) d_M_happenedBy_49 (by decide)) ?_
            refine S.of1 (pc2 := 51) (fun Q => g_aload_n d_M_happenedBy_50 rfl) ?_
            refine S.of1 (pc2 := 52) (fun Q => g_iload_n d_M_happenedBy_51 rfl) ?_
            refine S.of1 (pc2 := 54) (fun Q => g_iload d_M_happenedBy_52 rfl) ?_
            refine S.call_rI (pc3 := 57) rfl (c_M_agreedOn (d - 1) (by omega) v3 v4 σ) (fun Q => g_callV (M2 := m_M_agreedOn) (vs := [.int v3, .int v4]) (st := [.int (1 : Int32), .int v2]) lv_RX11_205 gk_59 rfl rfl (Nat.le_of_ble_eq_true rfl) (by omega) (Nat.le_of_ble_eq_true rfl) rfl d_M_happenedBy_54) (fun q9 => ?_)
            refine S.of1 (pc2 := 58) (fun Q => g_ishl d_M_happenedBy_57) ?_
            refine S.of1 (pc2 := 62) (fun Q => g_goto d_M_happenedBy_58 rfl) ?_
            exact S.wk (L2 := [some (.ref 59), some (.int v1), none, some (.int v3), some (.int v4)]) (And.intro rfl (And.intro rfl (And.intro rfl (And.intro rfl trivial)))) (s_M_happenedBy_j62 d hd σ k4 hk4 (fun v1 v2 v3 v4 => f_M_happenedBy_L15 σ k4 n v1 v2 v3 v4) (fun v1 v2 v3 v4 => ih v1 v2 v3 v4) v1 v3 v4 ((1 : Int32) <<< (q9 &&& 31)) v2)
def f_M_happenedBy_L4 (σ : gS) : Nat → Int32 → Int32 → Int32 → Option Int32
  | 0, _, _, _ => none
  | n + 1, v1, v2, v3 =>
  if (σ.1 59 6) ≤ v3 then some v2 else f_M_happenedBy_L15 σ (fun v1 v2 v3 => f_M_happenedBy_L4 σ n v1 v2 v3) gfu v1 v2 v3 (0 : Int32)
theorem s_M_happenedBy_L4 (d : Nat) (hd : 2 ≤ d) (σ : gS) : ∀ (n : Nat) (v1 : Int32) (v2 : Int32) (v3 : Int32), S (rI σ) m_M_happenedBy d 4 [some (.ref 59), some (.int v1), some (.int v2), some (.int v3), none] [] σ (f_M_happenedBy_L4 σ n v1 v2 v3) := by
  intro n
  induction n with
  | zero =>
    intros
    unfold f_M_happenedBy_L4
    exact S.no
  | succ n ih =>
    intro v1 v2 v3
    unfold f_M_happenedBy_L4
    refine S.of1 (pc2 := 5) (fun Q => g_iload_n d_M_happenedBy_4 rfl) ?_
    refine S.of1 (pc2 := 6) (fun Q => g_aload_n d_M_happenedBy_5 rfl) ?_
    refine S.of1 (pc2 := 9) (fun Q => g_geti fl_RX11_81 gc_59_6 d_M_happenedBy_6) ?_
    refine S.br (c := (σ.1 59 6) ≤ v3) (t := 76) (e := 12) (fun Q kt kf => g_icmp_ge d_M_happenedBy_9 rfl kt kf) (fun h1 => ?_) (fun h1 => ?_)
    · refine S.of1 (pc2 := 77) (fun Q => g_iload_n d_M_happenedBy_76 rfl) ?_
      exact S.ret (fun Q hq => g_iret rfl d_M_happenedBy_77 hq)
    · refine S.of1 (pc2 := 13) (fun Q => g_iconst (v := (0 : Int32)) d_M_happenedBy_12 (by decide)) ?_
      refine S.of1 (pc2 := 15) (L2 := [some (.ref 59), some (.int v1), some (.int v2), some (.int v3), some (.int (0 : Int32))]) (fun Q => g_istore d_M_happenedBy_13 (Nat.le_of_ble_eq_true rfl) rfl) ?_
      exact S.wk (L2 := [some (.ref 59), some (.int v1), some (.int v2), some (.int v3), some (.int (0 : Int32))]) (And.intro rfl (And.intro rfl (And.intro rfl (And.intro rfl (And.intro rfl trivial))))) (s_M_happenedBy_L15 d hd σ (fun v1 v2 v3 => f_M_happenedBy_L4 σ n v1 v2 v3) (fun v1 v2 v3 => ih v1 v2 v3) gfu v1 v2 v3 (0 : Int32))
def f_M_happenedBy (v1 : Int32) (σ : gS) : Option Int32 :=
  f_M_happenedBy_L4 σ gfu v1 (0 : Int32) (0 : Int32)
theorem c_M_happenedBy (d : Nat) (hd : 2 ≤ d) (v1 : Int32) (σ : gS) : C (rI σ) d m_M_happenedBy [.ref 59, .int v1] σ (f_M_happenedBy v1 σ) := by
  unfold f_M_happenedBy
  refine C.of (by decide +kernel) (Nat.le_of_ble_eq_true rfl) (L := [some (.ref 59), some (.int v1), none, none, none]) rfl ?_
  refine S.of1 (pc2 := 1) (fun Q => g_iconst (v := (0 : Int32)) d_M_happenedBy_0 (by decide)) ?_
  refine S.of1 (pc2 := 2) (L2 := [some (.ref 59), some (.int v1), some (.int (0 : Int32)), none, none]) (fun Q => g_istore_n d_M_happenedBy_1 (Nat.le_of_ble_eq_true rfl) rfl) ?_
  refine S.of1 (pc2 := 3) (fun Q => g_iconst (v := (0 : Int32)) d_M_happenedBy_2 (by decide)) ?_
  refine S.of1 (pc2 := 4) (L2 := [some (.ref 59), some (.int v1), some (.int (0 : Int32)), some (.int (0 : Int32)), none]) (fun Q => g_istore_n d_M_happenedBy_3 (Nat.le_of_ble_eq_true rfl) rfl) ?_
  exact S.wk (L2 := [some (.ref 59), some (.int v1), some (.int (0 : Int32)), some (.int (0 : Int32)), none]) (And.intro rfl (And.intro rfl (And.intro rfl (And.intro rfl trivial)))) (s_M_happenedBy_L4 d hd σ gfu v1 (0 : Int32) (0 : Int32))
def f_M_everybody (σ : gS) : Option Int32 :=
  some (((1 : Int32) <<< ((σ.1 59 6) &&& 31)) - (1 : Int32))
theorem c_M_everybody (d : Nat) (hd : 1 ≤ d) (σ : gS) : C (rI σ) d m_M_everybody [.ref 59] σ (f_M_everybody σ) := by
  unfold f_M_everybody
  refine C.of (by decide +kernel) (Nat.le_of_ble_eq_true rfl) (L := [some (.ref 59)]) rfl ?_
  refine S.of1 (pc2 := 1) (fun Q => g_iconst (v := (1 : Int32)) d_M_everybody_0 (by decide)) ?_
  refine S.of1 (pc2 := 2) (fun Q => g_aload_n d_M_everybody_1 rfl) ?_
  refine S.of1 (pc2 := 5) (fun Q => g_geti fl_RX11_81 gc_59_6 d_M_everybody_2) ?_
  refine S.of1 (pc2 := 6) (fun Q => g_ishl d_M_everybody_5) ?_
  refine S.of1 (pc2 := 7) (fun Q => g_iconst (v := (1 : Int32)) d_M_everybody_6 (by decide)) ?_
  refine S.of1 (pc2 := 8) (fun Q => g_isub d_M_everybody_7) ?_
  exact S.ret (fun Q hq => g_iret rfl d_M_everybody_8 hq)
def f_M_says (v1 : Int32) (σ : gS) : Option (Int32 × gS) :=
  (f_M_isOne (v1.toInt64) σ).bind fun q1 => if q1 = 0 then some ((-1 : Int32), σ) else (f_M_saysBy v1 (σ.1 60 40) (σ.1 60 42) σ).bind fun q3 => some (q3.1, q3.2)
theorem c_M_says (d : Nat) (hd : 58 ≤ d) (v1 : Int32) (σ : gS) : C wI d m_M_says [.ref 59, .int v1] σ (f_M_says v1 σ) := by
  unfold f_M_says
  refine C.of (by decide +kernel) (Nat.le_of_ble_eq_true rfl) (L := [some (.ref 59), some (.int v1)]) rfl ?_
  refine S.of1 (pc2 := 1) (fun Q => g_aload_n d_M_says_0 rfl) ?_
  refine S.of1 (pc2 := 2) (fun Q => g_iload_n d_M_says_1 rfl) ?_
  refine S.of1 (pc2 := 3) (fun Q => g_i2l d_M_says_2) ?_
  refine S.call_rI (pc3 := 6) rfl (c_M_isOne (d - 1) (by omega) (v1.toInt64) σ) (fun Q => g_callV (M2 := m_M_isOne) (vs := [.long (v1.toInt64)]) (st := []) lv_RX11_111 gk_59 rfl rfl (Nat.le_of_ble_eq_true rfl) (by omega) (Nat.le_of_ble_eq_true rfl) rfl d_M_says_3) (fun q1 => ?_)
  refine S.br (c := q1 = 0) (t := 31) (e := 9) (fun Q kt kf => g_if_eq d_M_says_6 rfl kt kf) (fun h2 => ?_) (fun h2 => ?_)
  · refine S.of1 (pc2 := 32) (fun Q => g_iconst (v := (-1 : Int32)) d_M_says_31 (by decide)) ?_
    exact S.ret (fun Q hq => g_iret rfl d_M_says_32 hq)
  · refine S.of1 (pc2 := 10) (fun Q => g_aload_n d_M_says_9 rfl) ?_
    refine S.of1 (pc2 := 11) (fun Q => g_iload_n d_M_says_10 rfl) ?_
    refine S.of1 (pc2 := 12) (fun Q => g_aload_n d_M_says_11 rfl) ?_
    refine S.of1 (pc2 := 15) (fun Q => g_getr fl_RX11_9 gc_59_0 d_M_says_12) ?_
    refine S.of1 (pc2 := 17) (fun Q => g_bipush (v := (40 : Int32)) d_M_says_15 (by decide)) ?_
    refine S.of1 (pc2 := 18) (fun Q => g_iald ga_60 (vp_lit rfl) d_M_says_17) ?_
    refine S.of1 (pc2 := 19) (fun Q => g_aload_n d_M_says_18 rfl) ?_
    refine S.of1 (pc2 := 22) (fun Q => g_getr fl_RX11_9 gc_59_0 d_M_says_19) ?_
    refine S.of1 (pc2 := 24) (fun Q => g_bipush (v := (42 : Int32)) d_M_says_22 (by decide)) ?_
    refine S.of1 (pc2 := 25) (fun Q => g_iald ga_60 (vp_lit rfl) d_M_says_24) ?_
    refine S.call_wI (pc3 := 28) rfl (c_M_saysBy (d - 1) (by omega) v1 (σ.1 60 40) (σ.1 60 42) σ) (fun Q => g_callV (M2 := m_M_saysBy) (vs := [.int v1, .int (σ.1 60 40), .int (σ.1 60 42)]) (st := []) lv_RX11_191 gk_59 rfl rfl (Nat.le_of_ble_eq_true rfl) (by omega) (Nat.le_of_ble_eq_true rfl) rfl d_M_says_25) (fun q3 => ?_)
    refine S.of1 (pc2 := 32) (fun Q => g_goto d_M_says_28 rfl) ?_
    exact S.ret (fun Q hq => g_iret rfl d_M_says_32 hq)
def f_M_all_j53 (k20 : Int32 → Int32 → Int32 → gS → Option (Int32 × gS)) (k31 : Int32 → Int32 → Int32 → Int32 → gS → Option (Int32 × gS)) (v1 : Int32) (v3 : Int32) (v4 : Int32) (s0 : Int32) (s1 : Int32) (σ : gS) : Option (Int32 × gS) :=
  k31 v1 (s1 + s0) v3 (v4 + (1 : Int32)) σ
theorem s_M_all_j53 (d : Nat) (hd : 60 ≤ d) (k20 : Int32 → Int32 → Int32 → gS → Option (Int32 × gS)) (hk20 : ∀ (v1 : Int32) (v2 : Int32) (v3 : Int32) (τ : gS), S wI m_M_all d 20 [some (.ref 59), some (.int v1), some (.int v2), some (.int v3), none] [] τ (k20 v1 v2 v3 τ)) (k31 : Int32 → Int32 → Int32 → Int32 → gS → Option (Int32 × gS)) (hk31 : ∀ (v1 : Int32) (v2 : Int32) (v3 : Int32) (v4 : Int32) (τ : gS), S wI m_M_all d 31 [some (.ref 59), some (.int v1), some (.int v2), some (.int v3), some (.int v4)] [] τ (k31 v1 v2 v3 v4 τ)) (v1 : Int32) (v3 : Int32) (v4 : Int32) (s0 : Int32) (s1 : Int32) (σ : gS) : S wI m_M_all d 53 [some (.ref 59), some (.int v1), none, some (.int v3), some (.int v4)] [.int s0, .int s1] σ (f_M_all_j53 k20 k31 v1 v3 v4 s0 s1 σ) := by
  unfold f_M_all_j53
  refine S.of1 (pc2 := 54) (fun Q => g_iadd d_M_all_53) ?_
  refine S.of1 (pc2 := 55) (L2 := [some (.ref 59), some (.int v1), some (.int (s1 + s0)), some (.int v3), some (.int v4)]) (fun Q => g_istore_n d_M_all_54 (Nat.le_of_ble_eq_true rfl) rfl) ?_
  refine S.of1 (pc2 := 58) (L2 := [some (.ref 59), some (.int v1), some (.int (s1 + s0)), some (.int v3), some (.int (v4 + (1 : Int32)))]) (fun Q => g_iinc d_M_all_55 rfl (congrArg (fun z => v4 + z) (by decide)) (Nat.le_of_ble_eq_true rfl) rfl) ?_
  refine S.of1 (pc2 := 31) (fun Q => g_goto d_M_all_58 rfl) ?_
  exact S.wk (L2 := [some (.ref 59), some (.int v1), some (.int (s1 + s0)), some (.int v3), some (.int (v4 + (1 : Int32)))]) (And.intro rfl (And.intro rfl (And.intro rfl (And.intro rfl (And.intro rfl trivial))))) (hk31 v1 (s1 + s0) v3 (v4 + (1 : Int32)) σ)
def f_M_all_L31 (k20 : Int32 → Int32 → Int32 → gS → Option (Int32 × gS)) : Nat → Int32 → Int32 → Int32 → Int32 → gS → Option (Int32 × gS)
  | 0, _, _, _, _, _ => none
  | n + 1, v1, v2, v3, v4, σ =>
  if v3 ≤ v4 then k20 v1 v2 (v3 + (1 : Int32)) σ else (f_M_agree v3 v4 σ).bind fun q9 => if q9 = 0 then f_M_all_j53 k20 (fun v1 v2 v3 v4 σ => f_M_all_L31 k20 n v1 v2 v3 v4 σ) v1 v3 v4 (0 : Int32) v2 σ else f_M_all_j53 k20 (fun v1 v2 v3 v4 σ => f_M_all_L31 k20 n v1 v2 v3 v4 σ) v1 v3 v4 (1 : Int32) v2 σ
theorem s_M_all_L31 (d : Nat) (hd : 60 ≤ d) (k20 : Int32 → Int32 → Int32 → gS → Option (Int32 × gS)) (hk20 : ∀ (v1 : Int32) (v2 : Int32) (v3 : Int32) (τ : gS), S wI m_M_all d 20 [some (.ref 59), some (.int v1), some (.int v2), some (.int v3), none] [] τ (k20 v1 v2 v3 τ)) : ∀ (n : Nat) (v1 : Int32) (v2 : Int32) (v3 : Int32) (v4 : Int32) (σ : gS), S wI m_M_all d 31 [some (.ref 59), some (.int v1), some (.int v2), some (.int v3), some (.int v4)] [] σ (f_M_all_L31 k20 n v1 v2 v3 v4 σ) := by
  intro n
  induction n with
  | zero =>
    intros
    unfold f_M_all_L31
    exact S.no
  | succ n ih =>
    intro v1 v2 v3 v4 σ
    unfold f_M_all_L31
    refine S.of1 (pc2 := 33) (fun Q => g_iload d_M_all_31 rfl) ?_
    refine S.of1 (pc2 := 34) (fun Q => g_iload_n d_M_all_33 rfl) ?_
    refine S.br (c := v3 ≤ v4) (t := 61) (e := 37) (fun Q kt kf => g_icmp_ge d_M_all_34 rfl kt kf) (fun h8 => ?_) (fun h8 => ?_)
    · refine S.of1 (pc2 := 64) (L2 := [some (.ref 59), some (.int v1), some (.int v2), some (.int (v3 + (1 : Int32))), some (.int v4)]) (fun Q => g_iinc d_M_all_61 rfl (congrArg (fun z => v3 + z) (by decide)) (Nat.le_of_ble_eq_true rfl) rfl) ?_
      refine S.of1 (pc2 := 20) (fun Q => g_goto d_M_all_64 rfl) ?_
      exact S.wk (L2 := [some (.ref 59), some (.int v1), some (.int v2), some (.int (v3 + (1 : Int32))), none]) (And.intro rfl (And.intro rfl (And.intro rfl (And.intro rfl trivial)))) (hk20 v1 v2 (v3 + (1 : Int32)) σ)
    · refine S.of1 (pc2 := 38) (fun Q => g_iload_n d_M_all_37 rfl) ?_
      refine S.of1 (pc2 := 39) (fun Q => g_aload_n d_M_all_38 rfl) ?_
      refine S.of1 (pc2 := 40) (fun Q => g_iload_n d_M_all_39 rfl) ?_
      refine S.of1 (pc2 := 42) (fun Q => g_iload d_M_all_40 rfl) ?_
      refine S.call_rI (pc3 := 45) rfl (c_M_agree (d - 1) (by omega) v3 v4 σ) (fun Q => g_callV (M2 := m_M_agree) (vs := [.int v3, .int v4]) (st := [.int v2]) lv_RX11_202 gk_59 rfl rfl (Nat.le_of_ble_eq_true rfl) (by omega) (Nat.le_of_ble_eq_true rfl) rfl d_M_all_42) (fun q9 => ?_)
      refine S.br (c := q9 = 0) (t := 52) (e := 48) (fun Q kt kf => g_if_eq d_M_all_45 rfl kt kf) (fun h10 => ?_) (fun h10 => ?_)
      · refine S.of1 (pc2 := 53) (fun Q => g_iconst (v := (0 : Int32)) d_M_all_52 (by decide)) ?_
        exact S.wk (L2 := [some (.ref 59), some (.int v1), none, some (.int v3), some (.int v4)]) (And.intro rfl (And.intro rfl (And.intro rfl (And.intro rfl trivial)))) (s_M_all_j53 d hd k20 hk20 (fun v1 v2 v3 v4 σ => f_M_all_L31 k20 n v1 v2 v3 v4 σ) (fun v1 v2 v3 v4 τ => ih v1 v2 v3 v4 τ) v1 v3 v4 (0 : Int32) v2 σ)
      · refine S.of1 (pc2 := 49) (fun Q => g_iconst (v := (1 : Int32)) d_M_all_48 (by decide)) ?_
        refine S.of1 (pc2 := 53) (fun Q => g_goto d_M_all_49 rfl) ?_
        exact S.wk (L2 := [some (.ref 59), some (.int v1), none, some (.int v3), some (.int v4)]) (And.intro rfl (And.intro rfl (And.intro rfl (And.intro rfl trivial)))) (s_M_all_j53 d hd k20 hk20 (fun v1 v2 v3 v4 σ => f_M_all_L31 k20 n v1 v2 v3 v4 σ) (fun v1 v2 v3 v4 τ => ih v1 v2 v3 v4 τ) v1 v3 v4 (1 : Int32) v2 σ)
def f_M_all_L20 : Nat → Int32 → Int32 → Int32 → gS → Option (Int32 × gS)
  | 0, _, _, _, _ => none
  | n + 1, v1, v2, v3, σ =>
  if (σ.1 59 6) ≤ v3 then if v1 = 0 then (f_M_everybody σ).bind fun q6 => (f_M_happenedBy q6 σ).bind fun q7 => some (q7, σ) else some (v2, σ) else f_M_all_L31 (fun v1 v2 v3 σ => f_M_all_L20 n v1 v2 v3 σ) gfu v1 v2 v3 (0 : Int32) σ
theorem s_M_all_L20 (d : Nat) (hd : 60 ≤ d) : ∀ (n : Nat) (v1 : Int32) (v2 : Int32) (v3 : Int32) (σ : gS), S wI m_M_all d 20 [some (.ref 59), some (.int v1), some (.int v2), some (.int v3), none] [] σ (f_M_all_L20 n v1 v2 v3 σ) := by
  intro n
  induction n with
  | zero =>
    intros
    unfold f_M_all_L20
    exact S.no
  | succ n ih =>
    intro v1 v2 v3 σ
    unfold f_M_all_L20
    refine S.of1 (pc2 := 21) (fun Q => g_iload_n d_M_all_20 rfl) ?_
    refine S.of1 (pc2 := 22) (fun Q => g_aload_n d_M_all_21 rfl) ?_
    refine S.of1 (pc2 := 25) (fun Q => g_geti fl_RX11_81 gc_59_6 d_M_all_22) ?_
    refine S.br (c := (σ.1 59 6) ≤ v3) (t := 67) (e := 28) (fun Q kt kf => g_icmp_ge d_M_all_25 rfl kt kf) (fun h4 => ?_) (fun h4 => ?_)
    · refine S.of1 (pc2 := 68) (fun Q => g_iload_n d_M_all_67 rfl) ?_
      refine S.br (c := v1 = 0) (t := 71) (e := 82) (fun Q kt kf => g_if_ne d_M_all_68 rfl kf kt) (fun h5 => ?_) (fun h5 => ?_)
      · refine S.of1 (pc2 := 72) (fun Q => g_aload_n d_M_all_71 rfl) ?_
        refine S.of1 (pc2 := 73) (fun Q => g_aload_n d_M_all_72 rfl) ?_
        refine S.call_rI (pc3 := 76) rfl (c_M_everybody (d - 1) (by omega) σ) (fun Q => g_callV (M2 := m_M_everybody) (vs := []) (st := [.ref 59]) lv_RX11_211 gk_59 rfl rfl (Nat.le_of_ble_eq_true rfl) (by omega) (Nat.le_of_ble_eq_true rfl) rfl d_M_all_73) (fun q6 => ?_)
        refine S.call_rI (pc3 := 79) rfl (c_M_happenedBy (d - 1) (by omega) q6 σ) (fun Q => g_callV (M2 := m_M_happenedBy) (vs := [.int q6]) (st := []) lv_RX11_214 gk_59 rfl rfl (Nat.le_of_ble_eq_true rfl) (by omega) (Nat.le_of_ble_eq_true rfl) rfl d_M_all_76) (fun q7 => ?_)
        refine S.of1 (pc2 := 83) (fun Q => g_goto d_M_all_79 rfl) ?_
        exact S.ret (fun Q hq => g_iret rfl d_M_all_83 hq)
      · refine S.of1 (pc2 := 83) (fun Q => g_iload_n d_M_all_82 rfl) ?_
        exact S.ret (fun Q hq => g_iret rfl d_M_all_83 hq)
    · refine S.of1 (pc2 := 29) (fun Q => g_iconst (v := (0 : Int32)) d_M_all_28 (by decide)) ?_
      refine S.of1 (pc2 := 31) (L2 := [some (.ref 59), some (.int v1), some (.int v2), some (.int v3), some (.int (0 : Int32))]) (fun Q => g_istore d_M_all_29 (Nat.le_of_ble_eq_true rfl) rfl) ?_
      exact S.wk (L2 := [some (.ref 59), some (.int v1), some (.int v2), some (.int v3), some (.int (0 : Int32))]) (And.intro rfl (And.intro rfl (And.intro rfl (And.intro rfl (And.intro rfl trivial))))) (s_M_all_L31 d hd (fun v1 v2 v3 σ => f_M_all_L20 n v1 v2 v3 σ) (fun v1 v2 v3 τ => ih v1 v2 v3 τ) gfu v1 v2 v3 (0 : Int32) σ)
def f_M_all (v1 : Int32) (σ : gS) : Option (Int32 × gS) :=
  (f_M_within (v1.toInt64) (0 : Int64) (1 : Int64)).bind fun q1 => if q1 = 0 then some ((-1 : Int32), σ) else (f_M_allSayNow σ).bind fun s3 => f_M_all_L20 gfu v1 (0 : Int32) (0 : Int32) s3
theorem c_M_all (d : Nat) (hd : 60 ≤ d) (v1 : Int32) (σ : gS) : C wI d m_M_all [.ref 59, .int v1] σ (f_M_all v1 σ) := by
  unfold f_M_all
  refine C.of (by decide +kernel) (Nat.le_of_ble_eq_true rfl) (L := [some (.ref 59), some (.int v1), none, none, none]) rfl ?_
  refine S.of1 (pc2 := 1) (fun Q => g_iload_n d_M_all_0 rfl) ?_
  refine S.of1 (pc2 := 2) (fun Q => g_i2l d_M_all_1) ?_
  refine S.of1 (pc2 := 3) (fun Q => g_lconst (v := (0 : Int64)) d_M_all_2 (by decide)) ?_
  refine S.of1 (pc2 := 4) (fun Q => g_lconst (v := (1 : Int64)) d_M_all_3 (by decide)) ?_
  refine S.call_rI (pc3 := 7) rfl (c_M_within (d - 1) (by omega) (v1.toInt64) (0 : Int64) (1 : Int64) σ) (fun Q => g_callS (M2 := m_M_within) (vs := [.long (v1.toInt64), .long (0 : Int64), .long (1 : Int64)]) (st := []) ls_RX11_84 rfl (Nat.le_of_ble_eq_true rfl) (by omega) (Nat.le_of_ble_eq_true rfl) rfl d_M_all_4) (fun q1 => ?_)
  refine S.br (c := q1 = 0) (t := 10) (e := 12) (fun Q kt kf => g_if_ne d_M_all_7 rfl kf kt) (fun h2 => ?_) (fun h2 => ?_)
  · refine S.of1 (pc2 := 11) (fun Q => g_iconst (v := (-1 : Int32)) d_M_all_10 (by decide)) ?_
    exact S.ret (fun Q hq => g_iret rfl d_M_all_11 hq)
  · refine S.of1 (pc2 := 13) (fun Q => g_aload_n d_M_all_12 rfl) ?_
    refine S.call_wV (pc3 := 16) rfl (c_M_allSayNow (d - 1) (by omega) σ) (fun Q => g_callV (M2 := m_M_allSayNow) (vs := []) (st := []) lv_RX11_208 gk_59 rfl rfl (Nat.le_of_ble_eq_true rfl) (by omega) (Nat.le_of_ble_eq_true rfl) rfl d_M_all_13) (fun s3 => ?_)
    refine S.of1 (pc2 := 17) (fun Q => g_iconst (v := (0 : Int32)) d_M_all_16 (by decide)) ?_
    refine S.of1 (pc2 := 18) (L2 := [some (.ref 59), some (.int v1), some (.int (0 : Int32)), none, none]) (fun Q => g_istore_n d_M_all_17 (Nat.le_of_ble_eq_true rfl) rfl) ?_
    refine S.of1 (pc2 := 19) (fun Q => g_iconst (v := (0 : Int32)) d_M_all_18 (by decide)) ?_
    refine S.of1 (pc2 := 20) (L2 := [some (.ref 59), some (.int v1), some (.int (0 : Int32)), some (.int (0 : Int32)), none]) (fun Q => g_istore_n d_M_all_19 (Nat.le_of_ble_eq_true rfl) rfl) ?_
    exact S.wk (L2 := [some (.ref 59), some (.int v1), some (.int (0 : Int32)), some (.int (0 : Int32)), none]) (And.intro rfl (And.intro rfl (And.intro rfl (And.intro rfl trivial)))) (s_M_all_L20 d hd gfu v1 (0 : Int32) (0 : Int32) s3)
def f_M_saying_j42 (k18 : Int32 → Int32 → Int32 → gS → Option (Int32 × gS)) (v1 : Int32) (v3 : Int32) (s0 : Int32) (s1 : Int32) (σ : gS) : Option (Int32 × gS) :=
  k18 v1 (s1 + s0) (v3 + (1 : Int32)) σ
theorem s_M_saying_j42 (d : Nat) (hd : 60 ≤ d) (k18 : Int32 → Int32 → Int32 → gS → Option (Int32 × gS)) (hk18 : ∀ (v1 : Int32) (v2 : Int32) (v3 : Int32) (τ : gS), S wI m_M_saying d 18 [some (.ref 59), some (.int v1), some (.int v2), some (.int v3)] [] τ (k18 v1 v2 v3 τ)) (v1 : Int32) (v3 : Int32) (s0 : Int32) (s1 : Int32) (σ : gS) : S wI m_M_saying d 42 [some (.ref 59), some (.int v1), none, some (.int v3)] [.int s0, .int s1] σ (f_M_saying_j42 k18 v1 v3 s0 s1 σ) := by
  unfold f_M_saying_j42
  refine S.of1 (pc2 := 43) (fun Q => g_iadd d_M_saying_42) ?_
  refine S.of1 (pc2 := 44) (L2 := [some (.ref 59), some (.int v1), some (.int (s1 + s0)), some (.int v3)]) (fun Q => g_istore_n d_M_saying_43 (Nat.le_of_ble_eq_true rfl) rfl) ?_
  refine S.of1 (pc2 := 47) (L2 := [some (.ref 59), some (.int v1), some (.int (s1 + s0)), some (.int (v3 + (1 : Int32)))]) (fun Q => g_iinc d_M_saying_44 rfl (congrArg (fun z => v3 + z) (by decide)) (Nat.le_of_ble_eq_true rfl) rfl) ?_
  refine S.of1 (pc2 := 18) (fun Q => g_goto d_M_saying_47 rfl) ?_
  exact S.wk (L2 := [some (.ref 59), some (.int v1), some (.int (s1 + s0)), some (.int (v3 + (1 : Int32)))]) (And.intro rfl (And.intro rfl (And.intro rfl (And.intro rfl trivial)))) (hk18 v1 (s1 + s0) (v3 + (1 : Int32)) σ)
def f_M_saying_L18 : Nat → Int32 → Int32 → Int32 → gS → Option (Int32 × gS)
  | 0, _, _, _, _ => none
  | n + 1, v1, v2, v3, σ =>
  if (σ.1 59 6) ≤ v3 then some (v2, σ) else if gix v3 10 then if (σ.1 67 v3.toNatClampNeg) = v1 then f_M_saying_j42 (fun v1 v2 v3 σ => f_M_saying_L18 n v1 v2 v3 σ) v1 v3 (1 : Int32) v2 σ else f_M_saying_j42 (fun v1 v2 v3 σ => f_M_saying_L18 n v1 v2 v3 σ) v1 v3 (0 : Int32) v2 σ else none
theorem s_M_saying_L18 (d : Nat) (hd : 60 ≤ d) : ∀ (n : Nat) (v1 : Int32) (v2 : Int32) (v3 : Int32) (σ : gS), S wI m_M_saying d 18 [some (.ref 59), some (.int v1), some (.int v2), some (.int v3)] [] σ (f_M_saying_L18 n v1 v2 v3 σ) := by
  intro n
  induction n with
  | zero =>
    intros
    unfold f_M_saying_L18
    exact S.no
  | succ n ih =>
    intro v1 v2 v3 σ
    unfold f_M_saying_L18
    refine S.of1 (pc2 := 19) (fun Q => g_iload_n d_M_saying_18 rfl) ?_
    refine S.of1 (pc2 := 20) (fun Q => g_aload_n d_M_saying_19 rfl) ?_
    refine S.of1 (pc2 := 23) (fun Q => g_geti fl_RX11_81 gc_59_6 d_M_saying_20) ?_
    refine S.br (c := (σ.1 59 6) ≤ v3) (t := 50) (e := 26) (fun Q kt kf => g_icmp_ge d_M_saying_23 rfl kt kf) (fun h4 => ?_) (fun h4 => ?_)
    · refine S.of1 (pc2 := 51) (fun Q => g_iload_n d_M_saying_50 rfl) ?_
      exact S.ret (fun Q hq => g_iret rfl d_M_saying_51 hq)
    · refine S.of1 (pc2 := 27) (fun Q => g_iload_n d_M_saying_26 rfl) ?_
      refine S.of1 (pc2 := 28) (fun Q => g_aload_n d_M_saying_27 rfl) ?_
      refine S.of1 (pc2 := 31) (fun Q => g_getr fl_RX11_31 gc_59_17 d_M_saying_28) ?_
      refine S.of1 (pc2 := 32) (fun Q => g_iload_n d_M_saying_31 rfl) ?_
      refine S.chk (fun h5 => ?_)
      refine S.of1 (pc2 := 33) (fun Q => g_iald ga_67 (gix_in h5) d_M_saying_32) ?_
      refine S.of1 (pc2 := 34) (fun Q => g_iload_n d_M_saying_33 rfl) ?_
      refine S.br (c := (σ.1 67 v3.toNatClampNeg) = v1) (t := 37) (e := 41) (fun Q kt kf => g_icmp_ne d_M_saying_34 rfl kf kt) (fun h6 => ?_) (fun h6 => ?_)
      · refine S.of1 (pc2 := 38) (fun Q => g_iconst (v := (1 : Int32)) d_M_saying_37 (by decide)) ?_
        refine S.of1 (pc2 := 42) (fun Q => g_goto d_M_saying_38 rfl) ?_
        exact S.wk (L2 := [some (.ref 59), some (.int v1), none, some (.int v3)]) (And.intro rfl (And.intro rfl (And.intro rfl trivial))) (s_M_saying_j42 d hd (fun v1 v2 v3 σ => f_M_saying_L18 n v1 v2 v3 σ) (fun v1 v2 v3 τ => ih v1 v2 v3 τ) v1 v3 (1 : Int32) v2 σ)
      · refine S.of1 (pc2 := 42) (fun Q => g_iconst (v := (0 : Int32)) d_M_saying_41 (by decide)) ?_
        exact S.wk (L2 := [some (.ref 59), some (.int v1), none, some (.int v3)]) (And.intro rfl (And.intro rfl (And.intro rfl trivial))) (s_M_saying_j42 d hd (fun v1 v2 v3 σ => f_M_saying_L18 n v1 v2 v3 σ) (fun v1 v2 v3 τ => ih v1 v2 v3 τ) v1 v3 (0 : Int32) v2 σ)
def f_M_saying (v1 : Int32) (σ : gS) : Option (Int32 × gS) :=
  (f_M_isWeather (v1.toInt64)).bind fun q1 => if q1 = 0 then some ((-1 : Int32), σ) else (f_M_allSayNow σ).bind fun s3 => f_M_saying_L18 gfu v1 (0 : Int32) (0 : Int32) s3
theorem c_M_saying (d : Nat) (hd : 60 ≤ d) (v1 : Int32) (σ : gS) : C wI d m_M_saying [.ref 59, .int v1] σ (f_M_saying v1 σ) := by
  unfold f_M_saying
  refine C.of (by decide +kernel) (Nat.le_of_ble_eq_true rfl) (L := [some (.ref 59), some (.int v1), none, none]) rfl ?_
  refine S.of1 (pc2 := 1) (fun Q => g_iload_n d_M_saying_0 rfl) ?_
  refine S.of1 (pc2 := 2) (fun Q => g_i2l d_M_saying_1) ?_
  refine S.call_rI (pc3 := 5) rfl (c_M_isWeather (d - 1) (by omega) (v1.toInt64) σ) (fun Q => g_callS (M2 := m_M_isWeather) (vs := [.long (v1.toInt64)]) (st := []) ls_RX11_119 rfl (Nat.le_of_ble_eq_true rfl) (by omega) (Nat.le_of_ble_eq_true rfl) rfl d_M_saying_2) (fun q1 => ?_)
  refine S.br (c := q1 = 0) (t := 8) (e := 10) (fun Q kt kf => g_if_ne d_M_saying_5 rfl kf kt) (fun h2 => ?_) (fun h2 => ?_)
  · refine S.of1 (pc2 := 9) (fun Q => g_iconst (v := (-1 : Int32)) d_M_saying_8 (by decide)) ?_
    exact S.ret (fun Q hq => g_iret rfl d_M_saying_9 hq)
  · refine S.of1 (pc2 := 11) (fun Q => g_aload_n d_M_saying_10 rfl) ?_
    refine S.call_wV (pc3 := 14) rfl (c_M_allSayNow (d - 1) (by omega) σ) (fun Q => g_callV (M2 := m_M_allSayNow) (vs := []) (st := []) lv_RX11_208 gk_59 rfl rfl (Nat.le_of_ble_eq_true rfl) (by omega) (Nat.le_of_ble_eq_true rfl) rfl d_M_saying_11) (fun s3 => ?_)
    refine S.of1 (pc2 := 15) (fun Q => g_iconst (v := (0 : Int32)) d_M_saying_14 (by decide)) ?_
    refine S.of1 (pc2 := 16) (L2 := [some (.ref 59), some (.int v1), some (.int (0 : Int32)), none]) (fun Q => g_istore_n d_M_saying_15 (Nat.le_of_ble_eq_true rfl) rfl) ?_
    refine S.of1 (pc2 := 17) (fun Q => g_iconst (v := (0 : Int32)) d_M_saying_16 (by decide)) ?_
    refine S.of1 (pc2 := 18) (L2 := [some (.ref 59), some (.int v1), some (.int (0 : Int32)), some (.int (0 : Int32))]) (fun Q => g_istore_n d_M_saying_17 (Nat.le_of_ble_eq_true rfl) rfl) ?_
    exact S.wk (L2 := [some (.ref 59), some (.int v1), some (.int (0 : Int32)), some (.int (0 : Int32))]) (And.intro rfl (And.intro rfl (And.intro rfl (And.intro rfl trivial)))) (s_M_saying_L18 d hd gfu v1 (0 : Int32) (0 : Int32) s3)
def f_M_bytesIs (v1 : Int32) (σ : gS) : Option Int32 :=
  (f_M_isShelf v1).bind fun q1 => if q1 = 0 then some (-1 : Int32) else if gix v1 6 then if 0 ≤ (σ.1 76 v1.toNatClampNeg) then if gix v1 6 then if (σ.1 76 v1.toNatClampNeg) = (50 : Int32) then some (1 : Int32) else some (-12 : Int32) else none else some (-11 : Int32) else none
theorem c_M_bytesIs (d : Nat) (hd : 3 ≤ d) (v1 : Int32) (σ : gS) : C (rI σ) d m_M_bytesIs [.ref 59, .int v1] σ (f_M_bytesIs v1 σ) := by
  unfold f_M_bytesIs
  refine C.of (by decide +kernel) (Nat.le_of_ble_eq_true rfl) (L := [some (.ref 59), some (.int v1)]) rfl ?_
  refine S.of1 (pc2 := 1) (fun Q => g_iload_n d_M_bytesIs_0 rfl) ?_
  refine S.call_rI (pc3 := 4) rfl (c_M_isShelf (d - 1) (by omega) v1 σ) (fun Q => g_callS (M2 := m_M_isShelf) (vs := [.int v1]) (st := []) ls_RX11_103 rfl (Nat.le_of_ble_eq_true rfl) (by omega) (Nat.le_of_ble_eq_true rfl) rfl d_M_bytesIs_1) (fun q1 => ?_)
  refine S.br (c := q1 = 0) (t := 7) (e := 11) (fun Q kt kf => g_if_ne d_M_bytesIs_4 rfl kf kt) (fun h2 => ?_) (fun h2 => ?_)
  · refine S.of1 (pc2 := 8) (fun Q => g_iconst (v := (-1 : Int32)) d_M_bytesIs_7 (by decide)) ?_
    refine S.of1 (pc2 := 42) (fun Q => g_goto d_M_bytesIs_8 rfl) ?_
    exact S.ret (fun Q hq => g_iret rfl d_M_bytesIs_42 hq)
  · refine S.of1 (pc2 := 12) (fun Q => g_aload_n d_M_bytesIs_11 rfl) ?_
    refine S.of1 (pc2 := 15) (fun Q => g_getr fl_RX11_58 gc_59_36 d_M_bytesIs_12) ?_
    refine S.of1 (pc2 := 16) (fun Q => g_iload_n d_M_bytesIs_15 rfl) ?_
    refine S.chk (fun h3 => ?_)
    refine S.of1 (pc2 := 17) (fun Q => g_iald ga_76 (gix_in h3) d_M_bytesIs_16) ?_
    refine S.br (c := 0 ≤ (σ.1 76 v1.toNatClampNeg)) (t := 25) (e := 20) (fun Q kt kf => g_if_ge d_M_bytesIs_17 rfl kt kf) (fun h4 => ?_) (fun h4 => ?_)
    · refine S.of1 (pc2 := 26) (fun Q => g_aload_n d_M_bytesIs_25 rfl) ?_
      refine S.of1 (pc2 := 29) (fun Q => g_getr fl_RX11_58 gc_59_36 d_M_bytesIs_26) ?_
      refine S.of1 (pc2 := 30) (fun Q => g_iload_n d_M_bytesIs_29 rfl) ?_
      refine S.chk (fun h5 => ?_)
      refine S.of1 (pc2 := 31) (fun Q => g_iald ga_76 (gix_in h5) d_M_bytesIs_30) ?_
      refine S.of1 (pc2 := 33) (fun Q => g_bipush (v := (50 : Int32)) d_M_bytesIs_31 (by decide)) ?_
      refine S.br (c := (σ.1 76 v1.toNatClampNeg) = (50 : Int32)) (t := 36) (e := 40) (fun Q kt kf => g_icmp_ne d_M_bytesIs_33 rfl kf kt) (fun h6 => ?_) (fun h6 => ?_)
      · refine S.of1 (pc2 := 37) (fun Q => g_iconst (v := (1 : Int32)) d_M_bytesIs_36 (by decide)) ?_
        refine S.of1 (pc2 := 42) (fun Q => g_goto d_M_bytesIs_37 rfl) ?_
        exact S.ret (fun Q hq => g_iret rfl d_M_bytesIs_42 hq)
      · refine S.of1 (pc2 := 42) (fun Q => g_bipush (v := (-12 : Int32)) d_M_bytesIs_40 (by decide)) ?_
        exact S.ret (fun Q hq => g_iret rfl d_M_bytesIs_42 hq)
    · refine S.of1 (pc2 := 22) (fun Q => g_bipush (v := (-11 : Int32)) d_M_bytesIs_20 (by decide)) ?_
      refine S.of1 (pc2 := 42) (fun Q => g_goto d_M_bytesIs_22 rfl) ?_
      exact S.ret (fun Q hq => g_iret rfl d_M_bytesIs_42 hq)
def f_M_claimMany_L2 (σ : gS) : Nat → Int32 → Int32 → Option Int32
  | 0, _, _ => none
  | n + 1, v1, v2 =>
  if (40 : Int32) ≤ v2 then some v2 else if gix v1 6 then if (σ.1 77 v1.toNatClampNeg) ≤ v2 then some v2 else if gix (((60 : Int32) * v1) + v2) 360 then (f_M_isOne (σ.2 78 (((60 : Int32) * v1) + v2).toNatClampNeg) σ).bind fun q5 => if q5 = 0 then some v2 else (fun v1 v2 => f_M_claimMany_L2 σ n v1 v2) v1 (v2 + (1 : Int32)) else none else none
theorem s_M_claimMany_L2 (d : Nat) (hd : 3 ≤ d) (σ : gS) : ∀ (n : Nat) (v1 : Int32) (v2 : Int32), S (rI σ) m_M_claimMany d 2 [some (.ref 59), some (.int v1), some (.int v2)] [] σ (f_M_claimMany_L2 σ n v1 v2) := by
  intro n
  induction n with
  | zero =>
    intros
    unfold f_M_claimMany_L2
    exact S.no
  | succ n ih =>
    intro v1 v2
    unfold f_M_claimMany_L2
    refine S.of1 (pc2 := 3) (fun Q => g_iload_n d_M_claimMany_2 rfl) ?_
    refine S.of1 (pc2 := 5) (fun Q => g_bipush (v := (40 : Int32)) d_M_claimMany_3 (by decide)) ?_
    refine S.br (c := (40 : Int32) ≤ v2) (t := 42) (e := 8) (fun Q kt kf => g_icmp_ge d_M_claimMany_5 rfl kt kf) (fun h1 => ?_) (fun h1 => ?_)
    · refine S.of1 (pc2 := 43) (fun Q => g_iload_n d_M_claimMany_42 rfl) ?_
      exact S.ret (fun Q hq => g_iret rfl d_M_claimMany_43 hq)
    · refine S.of1 (pc2 := 9) (fun Q => g_iload_n d_M_claimMany_8 rfl) ?_
      refine S.of1 (pc2 := 10) (fun Q => g_aload_n d_M_claimMany_9 rfl) ?_
      refine S.of1 (pc2 := 13) (fun Q => g_getr fl_RX11_61 gc_59_37 d_M_claimMany_10) ?_
      refine S.of1 (pc2 := 14) (fun Q => g_iload_n d_M_claimMany_13 rfl) ?_
      refine S.chk (fun h2 => ?_)
      refine S.of1 (pc2 := 15) (fun Q => g_iald ga_77 (gix_in h2) d_M_claimMany_14) ?_
      refine S.br (c := (σ.1 77 v1.toNatClampNeg) ≤ v2) (t := 42) (e := 18) (fun Q kt kf => g_icmp_ge d_M_claimMany_15 rfl kt kf) (fun h3 => ?_) (fun h3 => ?_)
      · refine S.of1 (pc2 := 43) (fun Q => g_iload_n d_M_claimMany_42 rfl) ?_
        exact S.ret (fun Q hq => g_iret rfl d_M_claimMany_43 hq)
      · refine S.of1 (pc2 := 19) (fun Q => g_aload_n d_M_claimMany_18 rfl) ?_
        refine S.of1 (pc2 := 20) (fun Q => g_aload_n d_M_claimMany_19 rfl) ?_
        refine S.of1 (pc2 := 23) (fun Q => g_getr fl_RX11_64 gc_59_38 d_M_claimMany_20) ?_
        refine S.of1 (pc2 := 25) (fun Q => g_bipush (v := (60 : Int32)) d_M_claimMany_23 (by decide)) ?_
        refine S.of1 (pc2 := 26) (fun Q => g_iload_n d_M_claimMany_25 rfl) ?_
        refine S.of1 (pc2 := 27) (fun Q => g_imul d_M_claimMany_26) ?_
        refine S.of1 (pc2 := 28) (fun Q => g_iload_n d_M_claimMany_27 rfl) ?_
        refine S.of1 (pc2 := 29) (fun Q => g_iadd d_M_claimMany_28) ?_
        refine S.chk (fun h4 => ?_)
        refine S.of1 (pc2 := 30) (fun Q => g_lald ga_78 (gix_in h4) d_M_claimMany_29) ?_
        refine S.call_rI (pc3 := 33) rfl (c_M_isOne (d - 1) (by omega) (σ.2 78 (((60 : Int32) * v1) + v2).toNatClampNeg) σ) (fun Q => g_callV (M2 := m_M_isOne) (vs := [.long (σ.2 78 (((60 : Int32) * v1) + v2).toNatClampNeg)]) (st := []) lv_RX11_111 gk_59 rfl rfl (Nat.le_of_ble_eq_true rfl) (by omega) (Nat.le_of_ble_eq_true rfl) rfl d_M_claimMany_30) (fun q5 => ?_)
        refine S.br (c := q5 = 0) (t := 42) (e := 36) (fun Q kt kf => g_if_eq d_M_claimMany_33 rfl kt kf) (fun h6 => ?_) (fun h6 => ?_)
        · refine S.of1 (pc2 := 43) (fun Q => g_iload_n d_M_claimMany_42 rfl) ?_
          exact S.ret (fun Q hq => g_iret rfl d_M_claimMany_43 hq)
        · refine S.of1 (pc2 := 39) (L2 := [some (.ref 59), some (.int v1), some (.int (v2 + (1 : Int32)))]) (fun Q => g_iinc d_M_claimMany_36 rfl (congrArg (fun z => v2 + z) (by decide)) (Nat.le_of_ble_eq_true rfl) rfl) ?_
          refine S.of1 (pc2 := 2) (fun Q => g_goto d_M_claimMany_39 rfl) ?_
          exact S.wk (L2 := [some (.ref 59), some (.int v1), some (.int (v2 + (1 : Int32)))]) (And.intro rfl (And.intro rfl (And.intro rfl trivial))) (ih v1 (v2 + (1 : Int32)))
def f_M_claimMany (v1 : Int32) (σ : gS) : Option Int32 :=
  f_M_claimMany_L2 σ gfu v1 (0 : Int32)
theorem c_M_claimMany (d : Nat) (hd : 3 ≤ d) (v1 : Int32) (σ : gS) : C (rI σ) d m_M_claimMany [.ref 59, .int v1] σ (f_M_claimMany v1 σ) := by
  unfold f_M_claimMany
  refine C.of (by decide +kernel) (Nat.le_of_ble_eq_true rfl) (L := [some (.ref 59), some (.int v1), none]) rfl ?_
  refine S.of1 (pc2 := 1) (fun Q => g_iconst (v := (0 : Int32)) d_M_claimMany_0 (by decide)) ?_
  refine S.of1 (pc2 := 2) (L2 := [some (.ref 59), some (.int v1), some (.int (0 : Int32))]) (fun Q => g_istore_n d_M_claimMany_1 (Nat.le_of_ble_eq_true rfl) rfl) ?_
  exact S.wk (L2 := [some (.ref 59), some (.int v1), some (.int (0 : Int32))]) (And.intro rfl (And.intro rfl (And.intro rfl trivial))) (s_M_claimMany_L2 d hd σ gfu v1 (0 : Int32))
def f_M_cameBy_L5 (σ : gS) : Nat → Int32 → Int32 → Int32 → Int32 → Option Int32
  | 0, _, _, _, _ => none
  | n + 1, v1, v2, v3, v4 =>
  if v2 ≤ v4 then some v3 else (f_M_claimMany v1 σ).bind fun q2 => if q2 ≤ v4 then some v3 else if gix (((60 : Int32) * v1) + v4) 360 then glt (v3 ||| ((1 : Int32) <<< (((σ.2 78 (((60 : Int32) * v1) + v4).toNatClampNeg).toInt32) &&& 31))) fun x5 => (fun v1 v2 v3 v4 => f_M_cameBy_L5 σ n v1 v2 v3 v4) v1 v2 x5 (v4 + (1 : Int32)) else none
theorem s_M_cameBy_L5 (d : Nat) (hd : 4 ≤ d) (σ : gS) : ∀ (n : Nat) (v1 : Int32) (v2 : Int32) (v3 : Int32) (v4 : Int32), S (rI σ) m_M_cameBy d 5 [some (.ref 59), some (.int v1), some (.int v2), some (.int v3), some (.int v4)] [] σ (f_M_cameBy_L5 σ n v1 v2 v3 v4) := by
  intro n
  induction n with
  | zero =>
    intros
    unfold f_M_cameBy_L5
    exact S.no
  | succ n ih =>
    intro v1 v2 v3 v4
    unfold f_M_cameBy_L5
    refine S.of1 (pc2 := 7) (fun Q => g_iload d_M_cameBy_5 rfl) ?_
    refine S.of1 (pc2 := 8) (fun Q => g_iload_n d_M_cameBy_7 rfl) ?_
    refine S.br (c := v2 ≤ v4) (t := 45) (e := 11) (fun Q kt kf => g_icmp_ge d_M_cameBy_8 rfl kt kf) (fun h1 => ?_) (fun h1 => ?_)
    · refine S.of1 (pc2 := 46) (fun Q => g_iload_n d_M_cameBy_45 rfl) ?_
      exact S.ret (fun Q hq => g_iret rfl d_M_cameBy_46 hq)
    · refine S.of1 (pc2 := 13) (fun Q => g_iload d_M_cameBy_11 rfl) ?_
      refine S.of1 (pc2 := 14) (fun Q => g_aload_n d_M_cameBy_13 rfl) ?_
      refine S.of1 (pc2 := 15) (fun Q => g_iload_n d_M_cameBy_14 rfl) ?_
      refine S.call_rI (pc3 := 18) rfl (c_M_claimMany (d - 1) (by omega) v1 σ) (fun Q => g_callV (M2 := m_M_claimMany) (vs := [.int v1]) (st := [.int v4]) lv_RX11_217 gk_59 rfl rfl (Nat.le_of_ble_eq_true rfl) (by omega) (Nat.le_of_ble_eq_true rfl) rfl d_M_cameBy_15) (fun q2 => ?_)
      refine S.br (c := q2 ≤ v4) (t := 45) (e := 21) (fun Q kt kf => g_icmp_ge d_M_cameBy_18 rfl kt kf) (fun h3 => ?_) (fun h3 => ?_)
      · refine S.of1 (pc2 := 46) (fun Q => g_iload_n d_M_cameBy_45 rfl) ?_
        exact S.ret (fun Q hq => g_iret rfl d_M_cameBy_46 hq)
      · refine S.of1 (pc2 := 22) (fun Q => g_iload_n d_M_cameBy_21 rfl) ?_
        refine S.of1 (pc2 := 23) (fun Q => g_iconst (v := (1 : Int32)) d_M_cameBy_22 (by decide)) ?_
        refine S.of1 (pc2 := 24) (fun Q => g_aload_n d_M_cameBy_23 rfl) ?_
        refine S.of1 (pc2 := 27) (fun Q => g_getr fl_RX11_64 gc_59_38 d_M_cameBy_24) ?_
        refine S.of1 (pc2 := 29) (fun Q => g_bipush (v := (60 : Int32)) d_M_cameBy_27 (by decide)) ?_
        refine S.of1 (pc2 := 30) (fun Q => g_iload_n d_M_cameBy_29 rfl) ?_
        refine S.of1 (pc2 := 31) (fun Q => g_imul d_M_cameBy_30) ?_
        refine S.of1 (pc2 := 33) (fun Q => g_iload d_M_cameBy_31 rfl) ?_
        refine S.of1 (pc2 := 34) (fun Q => g_iadd d_M_cameBy_33) ?_
        refine S.chk (fun h4 => ?_)
        refine S.of1 (pc2 := 35) (fun Q => g_lald ga_78 (gix_in h4) d_M_cameBy_34) ?_
        refine S.of1 (pc2 := 36) (fun Q => g_l2i d_M_cameBy_35) ?_
        refine S.of1 (pc2 := 37) (fun Q => g_ishl d_M_cameBy_36) ?_
        refine S.of1 (pc2 := 38) (fun Q => g_ior d_M_cameBy_37) ?_
        refine S.of1 (pc2 := 39) (L2 := [some (.ref 59), some (.int v1), some (.int v2), some (.int (v3 ||| ((1 : Int32) <<< (((σ.2 78 (((60 : Int32) * v1) + v4).toNatClampNeg).toInt32) &&& 31)))), some (.int v4)]) (fun Q => g_istore_n d_M_cameBy_38 (Nat.le_of_ble_eq_true rfl) rfl) ?_
        refine S.glt (x := (v3 ||| ((1 : Int32) <<< (((σ.2 78 (((60 : Int32) * v1) + v4).toNatClampNeg).toInt32) &&& 31)))) (Lf := fun y => [some (.ref 59), some (.int v1), some (.int v2), some (.int y), some (.int v4)]) (fun x5 => ?_)
        refine S.of1 (pc2 := 42) (L2 := [some (.ref 59), some (.int v1), some (.int v2), some (.int x5), some (.int (v4 + (1 : Int32)))]) (fun Q => g_iinc d_M_cameBy_39 rfl (congrArg (fun z => v4 + z) (by decide)) (Nat.le_of_ble_eq_true rfl) rfl) ?_
        refine S.of1 (pc2 := 5) (fun Q => g_goto d_M_cameBy_42 rfl) ?_
        exact S.wk (L2 := [some (.ref 59), some (.int v1), some (.int v2), some (.int x5), some (.int (v4 + (1 : Int32)))]) (And.intro rfl (And.intro rfl (And.intro rfl (And.intro rfl (And.intro rfl trivial))))) (ih v1 v2 x5 (v4 + (1 : Int32)))
def f_M_cameBy (v1 : Int32) (v2 : Int32) (σ : gS) : Option Int32 :=
  f_M_cameBy_L5 σ gfu v1 v2 (0 : Int32) (0 : Int32)
theorem c_M_cameBy (d : Nat) (hd : 4 ≤ d) (v1 : Int32) (v2 : Int32) (σ : gS) : C (rI σ) d m_M_cameBy [.ref 59, .int v1, .int v2] σ (f_M_cameBy v1 v2 σ) := by
  unfold f_M_cameBy
  refine C.of (by decide +kernel) (Nat.le_of_ble_eq_true rfl) (L := [some (.ref 59), some (.int v1), some (.int v2), none, none]) rfl ?_
  refine S.of1 (pc2 := 1) (fun Q => g_iconst (v := (0 : Int32)) d_M_cameBy_0 (by decide)) ?_
  refine S.of1 (pc2 := 2) (L2 := [some (.ref 59), some (.int v1), some (.int v2), some (.int (0 : Int32)), none]) (fun Q => g_istore_n d_M_cameBy_1 (Nat.le_of_ble_eq_true rfl) rfl) ?_
  refine S.of1 (pc2 := 3) (fun Q => g_iconst (v := (0 : Int32)) d_M_cameBy_2 (by decide)) ?_
  refine S.of1 (pc2 := 5) (L2 := [some (.ref 59), some (.int v1), some (.int v2), some (.int (0 : Int32)), some (.int (0 : Int32))]) (fun Q => g_istore d_M_cameBy_3 (Nat.le_of_ble_eq_true rfl) rfl) ?_
  exact S.wk (L2 := [some (.ref 59), some (.int v1), some (.int v2), some (.int (0 : Int32)), some (.int (0 : Int32))]) (And.intro rfl (And.intro rfl (And.intro rfl (And.intro rfl (And.intro rfl trivial))))) (s_M_cameBy_L5 d hd σ gfu v1 v2 (0 : Int32) (0 : Int32))
def f_M_claims_L61 : Nat → Int32 → Int32 → Int32 → gS → Option (Int32 × gS)
  | 0, _, _, _, _ => none
  | n + 1, v1, v2, v4, σ =>
  if v2 ≤ v4 then some ((-2 : Int32), σ) else (f_M_cameBy v1 (v4 + (1 : Int32)) σ).bind fun q12 => (f_M_happenedBy q12 σ).bind fun q13 => if q13 = 0 then (fun v1 v2 v4 σ => f_M_claims_L61 n v1 v2 v4 σ) v1 v2 (v4 + (1 : Int32)) σ else some (v4, σ)
theorem s_M_claims_L61 (d : Nat) (hd : 60 ≤ d) : ∀ (n : Nat) (v1 : Int32) (v2 : Int32) (v4 : Int32) (σ : gS), S wI m_M_claims d 61 [some (.ref 59), some (.int v1), some (.int v2), none, some (.int v4)] [] σ (f_M_claims_L61 n v1 v2 v4 σ) := by
  intro n
  induction n with
  | zero =>
    intros
    unfold f_M_claims_L61
    exact S.no
  | succ n ih =>
    intro v1 v2 v4 σ
    unfold f_M_claims_L61
    refine S.of1 (pc2 := 63) (fun Q => g_iload d_M_claims_61 rfl) ?_
    refine S.of1 (pc2 := 64) (fun Q => g_iload_n d_M_claims_63 rfl) ?_
    refine S.br (c := v2 ≤ v4) (t := 92) (e := 67) (fun Q kt kf => g_icmp_ge d_M_claims_64 rfl kt kf) (fun h11 => ?_) (fun h11 => ?_)
    · refine S.of1 (pc2 := 94) (fun Q => g_bipush (v := (-2 : Int32)) d_M_claims_92 (by decide)) ?_
      exact S.ret (fun Q hq => g_iret rfl d_M_claims_94 hq)
    · refine S.of1 (pc2 := 68) (fun Q => g_aload_n d_M_claims_67 rfl) ?_
      refine S.of1 (pc2 := 69) (fun Q => g_aload_n d_M_claims_68 rfl) ?_
      refine S.of1 (pc2 := 70) (fun Q => g_iload_n d_M_claims_69 rfl) ?_
      refine S.of1 (pc2 := 72) (fun Q => g_iload d_M_claims_70 rfl) ?_
      refine S.of1 (pc2 := 73) (fun Q => g_iconst (v := (1 : Int32)) d_M_claims_72 (by decide)) ?_
      refine S.of1 (pc2 := 74) (fun Q => g_iadd d_M_claims_73) ?_
      refine S.call_rI (pc3 := 77) rfl (c_M_cameBy (d - 1) (by omega) v1 (v4 + (1 : Int32)) σ) (fun Q => g_callV (M2 := m_M_cameBy) (vs := [.int v1, .int (v4 + (1 : Int32))]) (st := [.ref 59]) lv_RX11_225 gk_59 rfl rfl (Nat.le_of_ble_eq_true rfl) (by omega) (Nat.le_of_ble_eq_true rfl) rfl d_M_claims_74) (fun q12 => ?_)
      refine S.call_rI (pc3 := 80) rfl (c_M_happenedBy (d - 1) (by omega) q12 σ) (fun Q => g_callV (M2 := m_M_happenedBy) (vs := [.int q12]) (st := []) lv_RX11_214 gk_59 rfl rfl (Nat.le_of_ble_eq_true rfl) (by omega) (Nat.le_of_ble_eq_true rfl) rfl d_M_claims_77) (fun q13 => ?_)
      refine S.br (c := q13 = 0) (t := 86) (e := 83) (fun Q kt kf => g_if_eq d_M_claims_80 rfl kt kf) (fun h14 => ?_) (fun h14 => ?_)
      · refine S.of1 (pc2 := 89) (L2 := [some (.ref 59), some (.int v1), some (.int v2), none, some (.int (v4 + (1 : Int32)))]) (fun Q => g_iinc d_M_claims_86 rfl (congrArg (fun z => v4 + z) (by decide)) (Nat.le_of_ble_eq_true rfl) rfl) ?_
        refine S.of1 (pc2 := 61) (fun Q => g_goto d_M_claims_89 rfl) ?_
        exact S.wk (L2 := [some (.ref 59), some (.int v1), some (.int v2), none, some (.int (v4 + (1 : Int32)))]) (And.intro rfl (And.intro rfl (And.intro rfl (And.intro rfl trivial)))) (ih v1 v2 (v4 + (1 : Int32)) σ)
      · refine S.of1 (pc2 := 85) (fun Q => g_iload d_M_claims_83 rfl) ?_
        exact S.ret (fun Q hq => g_iret rfl d_M_claims_85 hq)
def f_M_claims (v1 : Int32) (v2 : Int32) (v3 : Int32) (σ : gS) : Option (Int32 × gS) :=
  (f_M_bytesIs v1 σ).bind fun q1 => if q1 = (-1 : Int32) then some ((-1 : Int32), σ) else (f_M_within (v2.toInt64) (0 : Int64) (40 : Int64)).bind fun q3 => if q3 = 0 then some ((-1 : Int32), σ) else (f_M_within (v3.toInt64) (0 : Int64) (2 : Int64)).bind fun q5 => if q5 = 0 then some ((-1 : Int32), σ) else (f_M_bytesIs v1 σ).bind fun q7 => if 0 ≤ q7 then (f_M_allSayNow σ).bind fun s9 => if v3 = (1 : Int32) then f_M_claims_L61 gfu v1 v2 (0 : Int32) s9 else if v3 = 0 then (f_M_cameBy v1 v2 s9).bind fun q16 => (f_M_happenedBy q16 s9).bind fun q17 => some (q17, s9) else (f_M_cameBy v1 v2 s9).bind fun q18 => (f_M_bitsOf q18).bind fun q19 => some (q19, s9) else (f_M_bytesIs v1 σ).bind fun q20 => some (q20, σ)
theorem c_M_claims (d : Nat) (hd : 60 ≤ d) (v1 : Int32) (v2 : Int32) (v3 : Int32) (σ : gS) : C wI d m_M_claims [.ref 59, .int v1, .int v2, .int v3] σ (f_M_claims v1 v2 v3 σ) := by
  unfold f_M_claims
  refine C.of (by decide +kernel) (Nat.le_of_ble_eq_true rfl) (L := [some (.ref 59), some (.int v1), some (.int v2), some (.int v3), none]) rfl ?_
  refine S.of1 (pc2 := 1) (fun Q => g_aload_n d_M_claims_0 rfl) ?_
  refine S.of1 (pc2 := 2) (fun Q => g_iload_n d_M_claims_1 rfl) ?_
  refine S.call_rI (pc3 := 5) rfl (c_M_bytesIs (d - 1) (by omega) v1 σ) (fun Q => g_callV (M2 := m_M_bytesIs) (vs := [.int v1]) (st := []) lv_RX11_220 gk_59 rfl rfl (Nat.le_of_ble_eq_true rfl) (by omega) (Nat.le_of_ble_eq_true rfl) rfl d_M_claims_2) (fun q1 => ?_)
  refine S.of1 (pc2 := 6) (fun Q => g_iconst (v := (-1 : Int32)) d_M_claims_5 (by decide)) ?_
  refine S.br (c := q1 = (-1 : Int32)) (t := 33) (e := 9) (fun Q kt kf => g_icmp_eq d_M_claims_6 rfl kt kf) (fun h2 => ?_) (fun h2 => ?_)
  · refine S.of1 (pc2 := 34) (fun Q => g_iconst (v := (-1 : Int32)) d_M_claims_33 (by decide)) ?_
    exact S.ret (fun Q hq => g_iret rfl d_M_claims_34 hq)
  · refine S.of1 (pc2 := 10) (fun Q => g_iload_n d_M_claims_9 rfl) ?_
    refine S.of1 (pc2 := 11) (fun Q => g_i2l d_M_claims_10) ?_
    refine S.of1 (pc2 := 12) (fun Q => g_lconst (v := (0 : Int64)) d_M_claims_11 (by decide)) ?_
    refine S.of1 (pc2 := 15) (fun Q => g_ldc2 (v := (40 : Int64)) d_M_claims_12 w_1424) ?_
    refine S.call_rI (pc3 := 18) rfl (c_M_within (d - 1) (by omega) (v2.toInt64) (0 : Int64) (40 : Int64) σ) (fun Q => g_callS (M2 := m_M_within) (vs := [.long (v2.toInt64), .long (0 : Int64), .long (40 : Int64)]) (st := []) ls_RX11_84 rfl (Nat.le_of_ble_eq_true rfl) (by omega) (Nat.le_of_ble_eq_true rfl) rfl d_M_claims_15) (fun q3 => ?_)
    refine S.br (c := q3 = 0) (t := 33) (e := 21) (fun Q kt kf => g_if_eq d_M_claims_18 rfl kt kf) (fun h4 => ?_) (fun h4 => ?_)
    · refine S.of1 (pc2 := 34) (fun Q => g_iconst (v := (-1 : Int32)) d_M_claims_33 (by decide)) ?_
      exact S.ret (fun Q hq => g_iret rfl d_M_claims_34 hq)
    · refine S.of1 (pc2 := 22) (fun Q => g_iload_n d_M_claims_21 rfl) ?_
      refine S.of1 (pc2 := 23) (fun Q => g_i2l d_M_claims_22) ?_
      refine S.of1 (pc2 := 24) (fun Q => g_lconst (v := (0 : Int64)) d_M_claims_23 (by decide)) ?_
      refine S.of1 (pc2 := 27) (fun Q => g_ldc2 (v := (2 : Int64)) d_M_claims_24 w_1311) ?_
      refine S.call_rI (pc3 := 30) rfl (c_M_within (d - 1) (by omega) (v3.toInt64) (0 : Int64) (2 : Int64) σ) (fun Q => g_callS (M2 := m_M_within) (vs := [.long (v3.toInt64), .long (0 : Int64), .long (2 : Int64)]) (st := []) ls_RX11_84 rfl (Nat.le_of_ble_eq_true rfl) (by omega) (Nat.le_of_ble_eq_true rfl) rfl d_M_claims_27) (fun q5 => ?_)
      refine S.br (c := q5 = 0) (t := 33) (e := 35) (fun Q kt kf => g_if_ne d_M_claims_30 rfl kf kt) (fun h6 => ?_) (fun h6 => ?_)
      · refine S.of1 (pc2 := 34) (fun Q => g_iconst (v := (-1 : Int32)) d_M_claims_33 (by decide)) ?_
        exact S.ret (fun Q hq => g_iret rfl d_M_claims_34 hq)
      · refine S.of1 (pc2 := 36) (fun Q => g_aload_n d_M_claims_35 rfl) ?_
        refine S.of1 (pc2 := 37) (fun Q => g_iload_n d_M_claims_36 rfl) ?_
        refine S.call_rI (pc3 := 40) rfl (c_M_bytesIs (d - 1) (by omega) v1 σ) (fun Q => g_callV (M2 := m_M_bytesIs) (vs := [.int v1]) (st := []) lv_RX11_220 gk_59 rfl rfl (Nat.le_of_ble_eq_true rfl) (by omega) (Nat.le_of_ble_eq_true rfl) rfl d_M_claims_37) (fun q7 => ?_)
        refine S.br (c := 0 ≤ q7) (t := 49) (e := 43) (fun Q kt kf => g_if_ge d_M_claims_40 rfl kt kf) (fun h8 => ?_) (fun h8 => ?_)
        · refine S.of1 (pc2 := 50) (fun Q => g_aload_n d_M_claims_49 rfl) ?_
          refine S.call_wV (pc3 := 53) rfl (c_M_allSayNow (d - 1) (by omega) σ) (fun Q => g_callV (M2 := m_M_allSayNow) (vs := []) (st := []) lv_RX11_208 gk_59 rfl rfl (Nat.le_of_ble_eq_true rfl) (by omega) (Nat.le_of_ble_eq_true rfl) rfl d_M_claims_50) (fun s9 => ?_)
          refine S.of1 (pc2 := 54) (fun Q => g_iload_n d_M_claims_53 rfl) ?_
          refine S.of1 (pc2 := 55) (fun Q => g_iconst (v := (1 : Int32)) d_M_claims_54 (by decide)) ?_
          refine S.br (c := v3 = (1 : Int32)) (t := 58) (e := 95) (fun Q kt kf => g_icmp_ne d_M_claims_55 rfl kf kt) (fun h10 => ?_) (fun h10 => ?_)
          · refine S.of1 (pc2 := 59) (fun Q => g_iconst (v := (0 : Int32)) d_M_claims_58 (by decide)) ?_
            refine S.of1 (pc2 := 61) (L2 := [some (.ref 59), some (.int v1), some (.int v2), some (.int v3), some (.int (0 : Int32))]) (fun Q => g_istore d_M_claims_59 (Nat.le_of_ble_eq_true rfl) rfl) ?_
            exact S.wk (L2 := [some (.ref 59), some (.int v1), some (.int v2), none, some (.int (0 : Int32))]) (And.intro rfl (And.intro rfl (And.intro rfl (And.intro rfl trivial)))) (s_M_claims_L61 d hd gfu v1 v2 (0 : Int32) s9)
          · refine S.of1 (pc2 := 96) (fun Q => g_iload_n d_M_claims_95 rfl) ?_
            refine S.br (c := v3 = 0) (t := 99) (e := 112) (fun Q kt kf => g_if_ne d_M_claims_96 rfl kf kt) (fun h15 => ?_) (fun h15 => ?_)
            · refine S.of1 (pc2 := 100) (fun Q => g_aload_n d_M_claims_99 rfl) ?_
              refine S.of1 (pc2 := 101) (fun Q => g_aload_n d_M_claims_100 rfl) ?_
              refine S.of1 (pc2 := 102) (fun Q => g_iload_n d_M_claims_101 rfl) ?_
              refine S.of1 (pc2 := 103) (fun Q => g_iload_n d_M_claims_102 rfl) ?_
              refine S.call_rI (pc3 := 106) rfl (c_M_cameBy (d - 1) (by omega) v1 v2 s9) (fun Q => g_callV (M2 := m_M_cameBy) (vs := [.int v1, .int v2]) (st := [.ref 59]) lv_RX11_225 gk_59 rfl rfl (Nat.le_of_ble_eq_true rfl) (by omega) (Nat.le_of_ble_eq_true rfl) rfl d_M_claims_103) (fun q16 => ?_)
              refine S.call_rI (pc3 := 109) rfl (c_M_happenedBy (d - 1) (by omega) q16 s9) (fun Q => g_callV (M2 := m_M_happenedBy) (vs := [.int q16]) (st := []) lv_RX11_214 gk_59 rfl rfl (Nat.le_of_ble_eq_true rfl) (by omega) (Nat.le_of_ble_eq_true rfl) rfl d_M_claims_106) (fun q17 => ?_)
              refine S.of1 (pc2 := 121) (fun Q => g_goto d_M_claims_109 rfl) ?_
              exact S.ret (fun Q hq => g_iret rfl d_M_claims_121 hq)
            · refine S.of1 (pc2 := 113) (fun Q => g_aload_n d_M_claims_112 rfl) ?_
              refine S.of1 (pc2 := 114) (fun Q => g_iload_n d_M_claims_113 rfl) ?_
              refine S.of1 (pc2 := 115) (fun Q => g_iload_n d_M_claims_114 rfl) ?_
              refine S.call_rI (pc3 := 118) rfl (c_M_cameBy (d - 1) (by omega) v1 v2 s9) (fun Q => g_callV (M2 := m_M_cameBy) (vs := [.int v1, .int v2]) (st := []) lv_RX11_225 gk_59 rfl rfl (Nat.le_of_ble_eq_true rfl) (by omega) (Nat.le_of_ble_eq_true rfl) rfl d_M_claims_115) (fun q18 => ?_)
              refine S.call_rI (pc3 := 121) rfl (c_M_bitsOf (d - 1) (by omega) q18 s9) (fun Q => g_callS (M2 := m_M_bitsOf) (vs := [.int q18]) (st := []) ls_RX11_228 rfl (Nat.le_of_ble_eq_true rfl) (by omega) (Nat.le_of_ble_eq_true rfl) rfl d_M_claims_118) (fun q19 => ?_)
              exact S.ret (fun Q hq => g_iret rfl d_M_claims_121 hq)
        · refine S.of1 (pc2 := 44) (fun Q => g_aload_n d_M_claims_43 rfl) ?_
          refine S.of1 (pc2 := 45) (fun Q => g_iload_n d_M_claims_44 rfl) ?_
          refine S.call_rI (pc3 := 48) rfl (c_M_bytesIs (d - 1) (by omega) v1 σ) (fun Q => g_callV (M2 := m_M_bytesIs) (vs := [.int v1]) (st := []) lv_RX11_220 gk_59 rfl rfl (Nat.le_of_ble_eq_true rfl) (by omega) (Nat.le_of_ble_eq_true rfl) rfl d_M_claims_45) (fun q20 => ?_)
          exact S.ret (fun Q hq => g_iret rfl d_M_claims_48 hq)
def f_M_happens_L39 : Nat → Int32 → Int32 → Int32 → gS → Option (Int32 × gS)
  | 0, _, _, _, _ => none
  | n + 1, v1, v2, v3, σ =>
  if (40 : Int32) < v3 then some ((-2 : Int32), σ) else (f_M_cameBy v1 v3 σ).bind fun q9 => (f_M_happenedBy q9 σ).bind fun q10 => (f_M_isIn q10 v2).bind fun q11 => if q11 = 0 then (fun v1 v2 v3 σ => f_M_happens_L39 n v1 v2 v3 σ) v1 v2 (v3 + (1 : Int32)) σ else some (v3, σ)
theorem s_M_happens_L39 (d : Nat) (hd : 60 ≤ d) : ∀ (n : Nat) (v1 : Int32) (v2 : Int32) (v3 : Int32) (σ : gS), S wI m_M_happens d 39 [some (.ref 59), some (.int v1), some (.int v2), some (.int v3)] [] σ (f_M_happens_L39 n v1 v2 v3 σ) := by
  intro n
  induction n with
  | zero =>
    intros
    unfold f_M_happens_L39
    exact S.no
  | succ n ih =>
    intro v1 v2 v3 σ
    unfold f_M_happens_L39
    refine S.of1 (pc2 := 40) (fun Q => g_iload_n d_M_happens_39 rfl) ?_
    refine S.of1 (pc2 := 42) (fun Q => g_bipush (v := (40 : Int32)) d_M_happens_40 (by decide)) ?_
    refine S.br (c := (40 : Int32) < v3) (t := 70) (e := 45) (fun Q kt kf => g_icmp_gt d_M_happens_42 rfl kt kf) (fun h8 => ?_) (fun h8 => ?_)
    · refine S.of1 (pc2 := 72) (fun Q => g_bipush (v := (-2 : Int32)) d_M_happens_70 (by decide)) ?_
      exact S.ret (fun Q hq => g_iret rfl d_M_happens_72 hq)
    · refine S.of1 (pc2 := 46) (fun Q => g_aload_n d_M_happens_45 rfl) ?_
      refine S.of1 (pc2 := 47) (fun Q => g_aload_n d_M_happens_46 rfl) ?_
      refine S.of1 (pc2 := 48) (fun Q => g_iload_n d_M_happens_47 rfl) ?_
      refine S.of1 (pc2 := 49) (fun Q => g_iload_n d_M_happens_48 rfl) ?_
      refine S.call_rI (pc3 := 52) rfl (c_M_cameBy (d - 1) (by omega) v1 v3 σ) (fun Q => g_callV (M2 := m_M_cameBy) (vs := [.int v1, .int v3]) (st := [.ref 59]) lv_RX11_225 gk_59 rfl rfl (Nat.le_of_ble_eq_true rfl) (by omega) (Nat.le_of_ble_eq_true rfl) rfl d_M_happens_49) (fun q9 => ?_)
      refine S.call_rI (pc3 := 55) rfl (c_M_happenedBy (d - 1) (by omega) q9 σ) (fun Q => g_callV (M2 := m_M_happenedBy) (vs := [.int q9]) (st := []) lv_RX11_214 gk_59 rfl rfl (Nat.le_of_ble_eq_true rfl) (by omega) (Nat.le_of_ble_eq_true rfl) rfl d_M_happens_52) (fun q10 => ?_)
      refine S.of1 (pc2 := 56) (fun Q => g_iload_n d_M_happens_55 rfl) ?_
      refine S.call_rI (pc3 := 59) rfl (c_M_isIn (d - 1) (by omega) q10 v2 σ) (fun Q => g_callS (M2 := m_M_isIn) (vs := [.int q10, .int v2]) (st := []) ls_RX11_199 rfl (Nat.le_of_ble_eq_true rfl) (by omega) (Nat.le_of_ble_eq_true rfl) rfl d_M_happens_56) (fun q11 => ?_)
      refine S.br (c := q11 = 0) (t := 64) (e := 62) (fun Q kt kf => g_if_eq d_M_happens_59 rfl kt kf) (fun h12 => ?_) (fun h12 => ?_)
      · refine S.of1 (pc2 := 67) (L2 := [some (.ref 59), some (.int v1), some (.int v2), some (.int (v3 + (1 : Int32)))]) (fun Q => g_iinc d_M_happens_64 rfl (congrArg (fun z => v3 + z) (by decide)) (Nat.le_of_ble_eq_true rfl) rfl) ?_
        refine S.of1 (pc2 := 39) (fun Q => g_goto d_M_happens_67 rfl) ?_
        exact S.wk (L2 := [some (.ref 59), some (.int v1), some (.int v2), some (.int (v3 + (1 : Int32)))]) (And.intro rfl (And.intro rfl (And.intro rfl (And.intro rfl trivial)))) (ih v1 v2 (v3 + (1 : Int32)) σ)
      · refine S.of1 (pc2 := 63) (fun Q => g_iload_n d_M_happens_62 rfl) ?_
        exact S.ret (fun Q hq => g_iret rfl d_M_happens_63 hq)
def f_M_happens (v1 : Int32) (v2 : Int32) (σ : gS) : Option (Int32 × gS) :=
  (f_M_bytesIs v1 σ).bind fun q1 => if q1 = (-1 : Int32) then some ((-1 : Int32), σ) else (f_M_isWeather (v2.toInt64)).bind fun q3 => if q3 = 0 then some ((-1 : Int32), σ) else (f_M_bytesIs v1 σ).bind fun q5 => if 0 ≤ q5 then (f_M_allSayNow σ).bind fun s7 => f_M_happens_L39 gfu v1 v2 (0 : Int32) s7 else (f_M_bytesIs v1 σ).bind fun q13 => some (q13, σ)
theorem c_M_happens (d : Nat) (hd : 60 ≤ d) (v1 : Int32) (v2 : Int32) (σ : gS) : C wI d m_M_happens [.ref 59, .int v1, .int v2] σ (f_M_happens v1 v2 σ) := by
  unfold f_M_happens
  refine C.of (by decide +kernel) (Nat.le_of_ble_eq_true rfl) (L := [some (.ref 59), some (.int v1), some (.int v2), none]) rfl ?_
  refine S.of1 (pc2 := 1) (fun Q => g_aload_n d_M_happens_0 rfl) ?_
  refine S.of1 (pc2 := 2) (fun Q => g_iload_n d_M_happens_1 rfl) ?_
  refine S.call_rI (pc3 := 5) rfl (c_M_bytesIs (d - 1) (by omega) v1 σ) (fun Q => g_callV (M2 := m_M_bytesIs) (vs := [.int v1]) (st := []) lv_RX11_220 gk_59 rfl rfl (Nat.le_of_ble_eq_true rfl) (by omega) (Nat.le_of_ble_eq_true rfl) rfl d_M_happens_2) (fun q1 => ?_)
  refine S.of1 (pc2 := 6) (fun Q => g_iconst (v := (-1 : Int32)) d_M_happens_5 (by decide)) ?_
  refine S.br (c := q1 = (-1 : Int32)) (t := 17) (e := 9) (fun Q kt kf => g_icmp_eq d_M_happens_6 rfl kt kf) (fun h2 => ?_) (fun h2 => ?_)
  · refine S.of1 (pc2 := 18) (fun Q => g_iconst (v := (-1 : Int32)) d_M_happens_17 (by decide)) ?_
    exact S.ret (fun Q hq => g_iret rfl d_M_happens_18 hq)
  · refine S.of1 (pc2 := 10) (fun Q => g_iload_n d_M_happens_9 rfl) ?_
    refine S.of1 (pc2 := 11) (fun Q => g_i2l d_M_happens_10) ?_
    refine S.call_rI (pc3 := 14) rfl (c_M_isWeather (d - 1) (by omega) (v2.toInt64) σ) (fun Q => g_callS (M2 := m_M_isWeather) (vs := [.long (v2.toInt64)]) (st := []) ls_RX11_119 rfl (Nat.le_of_ble_eq_true rfl) (by omega) (Nat.le_of_ble_eq_true rfl) rfl d_M_happens_11) (fun q3 => ?_)
    refine S.br (c := q3 = 0) (t := 17) (e := 19) (fun Q kt kf => g_if_ne d_M_happens_14 rfl kf kt) (fun h4 => ?_) (fun h4 => ?_)
    · refine S.of1 (pc2 := 18) (fun Q => g_iconst (v := (-1 : Int32)) d_M_happens_17 (by decide)) ?_
      exact S.ret (fun Q hq => g_iret rfl d_M_happens_18 hq)
    · refine S.of1 (pc2 := 20) (fun Q => g_aload_n d_M_happens_19 rfl) ?_
      refine S.of1 (pc2 := 21) (fun Q => g_iload_n d_M_happens_20 rfl) ?_
      refine S.call_rI (pc3 := 24) rfl (c_M_bytesIs (d - 1) (by omega) v1 σ) (fun Q => g_callV (M2 := m_M_bytesIs) (vs := [.int v1]) (st := []) lv_RX11_220 gk_59 rfl rfl (Nat.le_of_ble_eq_true rfl) (by omega) (Nat.le_of_ble_eq_true rfl) rfl d_M_happens_21) (fun q5 => ?_)
      refine S.br (c := 0 ≤ q5) (t := 33) (e := 27) (fun Q kt kf => g_if_ge d_M_happens_24 rfl kt kf) (fun h6 => ?_) (fun h6 => ?_)
      · refine S.of1 (pc2 := 34) (fun Q => g_aload_n d_M_happens_33 rfl) ?_
        refine S.call_wV (pc3 := 37) rfl (c_M_allSayNow (d - 1) (by omega) σ) (fun Q => g_callV (M2 := m_M_allSayNow) (vs := []) (st := []) lv_RX11_208 gk_59 rfl rfl (Nat.le_of_ble_eq_true rfl) (by omega) (Nat.le_of_ble_eq_true rfl) rfl d_M_happens_34) (fun s7 => ?_)
        refine S.of1 (pc2 := 38) (fun Q => g_iconst (v := (0 : Int32)) d_M_happens_37 (by decide)) ?_
        refine S.of1 (pc2 := 39) (L2 := [some (.ref 59), some (.int v1), some (.int v2), some (.int (0 : Int32))]) (fun Q => g_istore_n d_M_happens_38 (Nat.le_of_ble_eq_true rfl) rfl) ?_
        exact S.wk (L2 := [some (.ref 59), some (.int v1), some (.int v2), some (.int (0 : Int32))]) (And.intro rfl (And.intro rfl (And.intro rfl (And.intro rfl trivial)))) (s_M_happens_L39 d hd gfu v1 v2 (0 : Int32) s7)
      · refine S.of1 (pc2 := 28) (fun Q => g_aload_n d_M_happens_27 rfl) ?_
        refine S.of1 (pc2 := 29) (fun Q => g_iload_n d_M_happens_28 rfl) ?_
        refine S.call_rI (pc3 := 32) rfl (c_M_bytesIs (d - 1) (by omega) v1 σ) (fun Q => g_callV (M2 := m_M_bytesIs) (vs := [.int v1]) (st := []) lv_RX11_220 gk_59 rfl rfl (Nat.le_of_ble_eq_true rfl) (by omega) (Nat.le_of_ble_eq_true rfl) rfl d_M_happens_29) (fun q13 => ?_)
        exact S.ret (fun Q hq => g_iret rfl d_M_happens_32 hq)
def f_M_costOf (v1 : Int32) (v2 : Int32) (σ : gS) : Option Int32 :=
  if gix v1 10 then if (σ.1 67 v1.toNatClampNeg) = v2 then some (0 : Int32) else if gix ((20 : Int32) + v1) 43 then some (σ.1 60 ((20 : Int32) + v1).toNatClampNeg) else none else none
theorem c_M_costOf (d : Nat) (hd : 1 ≤ d) (v1 : Int32) (v2 : Int32) (σ : gS) : C (rI σ) d m_M_costOf [.ref 59, .int v1, .int v2] σ (f_M_costOf v1 v2 σ) := by
  unfold f_M_costOf
  refine C.of (by decide +kernel) (Nat.le_of_ble_eq_true rfl) (L := [some (.ref 59), some (.int v1), some (.int v2)]) rfl ?_
  refine S.of1 (pc2 := 1) (fun Q => g_aload_n d_M_costOf_0 rfl) ?_
  refine S.of1 (pc2 := 4) (fun Q => g_getr fl_RX11_31 gc_59_17 d_M_costOf_1) ?_
  refine S.of1 (pc2 := 5) (fun Q => g_iload_n d_M_costOf_4 rfl) ?_
  refine S.chk (fun h1 => ?_)
  refine S.of1 (pc2 := 6) (fun Q => g_iald ga_67 (gix_in h1) d_M_costOf_5) ?_
  refine S.of1 (pc2 := 7) (fun Q => g_iload_n d_M_costOf_6 rfl) ?_
  refine S.br (c := (σ.1 67 v1.toNatClampNeg) = v2) (t := 10) (e := 14) (fun Q kt kf => g_icmp_ne d_M_costOf_7 rfl kf kt) (fun h2 => ?_) (fun h2 => ?_)
  · refine S.of1 (pc2 := 11) (fun Q => g_iconst (v := (0 : Int32)) d_M_costOf_10 (by decide)) ?_
    refine S.of1 (pc2 := 23) (fun Q => g_goto d_M_costOf_11 rfl) ?_
    exact S.ret (fun Q hq => g_iret rfl d_M_costOf_23 hq)
  · refine S.of1 (pc2 := 15) (fun Q => g_aload_n d_M_costOf_14 rfl) ?_
    refine S.of1 (pc2 := 18) (fun Q => g_getr fl_RX11_9 gc_59_0 d_M_costOf_15) ?_
    refine S.of1 (pc2 := 20) (fun Q => g_bipush (v := (20 : Int32)) d_M_costOf_18 (by decide)) ?_
    refine S.of1 (pc2 := 21) (fun Q => g_iload_n d_M_costOf_20 rfl) ?_
    refine S.of1 (pc2 := 22) (fun Q => g_iadd d_M_costOf_21) ?_
    refine S.chk (fun h3 => ?_)
    refine S.of1 (pc2 := 23) (fun Q => g_iald ga_60 (gix_in h3) d_M_costOf_22) ?_
    exact S.ret (fun Q hq => g_iret rfl d_M_costOf_23 hq)
def f_M_pay_j142 (v4 : Int32) (σ : gS) : Option (Int32 × gS) :=
  some (v4, σ)
theorem s_M_pay_j142 (d : Nat) (hd : 60 ≤ d) (v4 : Int32) (σ : gS) : S wI m_M_pay d 142 [none, none, none, none, some (.int v4), none, none] [] σ (f_M_pay_j142 v4 σ) := by
  unfold f_M_pay_j142
  refine S.of1 (pc2 := 144) (fun Q => g_iload d_M_pay_142 rfl) ?_
  refine S.of1 (pc2 := 148) (fun Q => g_goto d_M_pay_144 rfl) ?_
  exact S.ret (fun Q hq => g_iret rfl d_M_pay_148 hq)
def f_M_pay_L49 (k34 : Int32 → Int32 → Int32 → Int32 → Int32 → gS → Option (Int32 × gS)) : Nat → Int32 → Int32 → Int32 → Int32 → Int32 → Int32 → gS → Option (Int32 × gS)
  | 0, _, _, _, _, _, _, _ => none
  | n + 1, v1, v2, v3, v4, v5, v6, σ =>
  if (σ.1 59 6) ≤ v6 then k34 v1 v2 v3 v4 (v5 + (1 : Int32)) σ else if gix v5 43 then if gix v6 43 then if (σ.1 60 v5.toNatClampNeg) = (σ.1 60 v6.toNatClampNeg) then (fun v1 v2 v3 v4 v5 v6 σ => f_M_pay_L49 k34 n v1 v2 v3 v4 v5 v6 σ) v1 v2 v3 v4 v5 (v6 + (1 : Int32)) σ else (f_M_costOf v5 v1 σ).bind fun q14 => (f_M_costOf v6 v1 σ).bind fun q15 => if v3 ≤ (q14 + q15) then (fun v1 v2 v3 v4 v5 v6 σ => f_M_pay_L49 k34 n v1 v2 v3 v4 v5 v6 σ) v1 v2 v3 v4 v5 (v6 + (1 : Int32)) σ else (f_M_costOf v5 v1 σ).bind fun q17 => (f_M_costOf v6 v1 σ).bind fun q18 => glt (((10 : Int32) * v5) + v6) fun x19 => (fun v1 v2 v3 v4 v5 v6 σ => f_M_pay_L49 k34 n v1 v2 v3 v4 v5 v6 σ) v1 v2 (q17 + q18) x19 v5 (v6 + (1 : Int32)) σ else none else none
theorem s_M_pay_L49 (d : Nat) (hd : 60 ≤ d) (k34 : Int32 → Int32 → Int32 → Int32 → Int32 → gS → Option (Int32 × gS)) (hk34 : ∀ (v1 : Int32) (v2 : Int32) (v3 : Int32) (v4 : Int32) (v5 : Int32) (τ : gS), S wI m_M_pay d 34 [some (.ref 59), some (.int v1), some (.int v2), some (.int v3), some (.int v4), some (.int v5), none] [] τ (k34 v1 v2 v3 v4 v5 τ)) : ∀ (n : Nat) (v1 : Int32) (v2 : Int32) (v3 : Int32) (v4 : Int32) (v5 : Int32) (v6 : Int32) (σ : gS), S wI m_M_pay d 49 [some (.ref 59), some (.int v1), some (.int v2), some (.int v3), some (.int v4), some (.int v5), some (.int v6)] [] σ (f_M_pay_L49 k34 n v1 v2 v3 v4 v5 v6 σ) := by
  intro n
  induction n with
  | zero =>
    intros
    unfold f_M_pay_L49
    exact S.no
  | succ n ih =>
    intro v1 v2 v3 v4 v5 v6 σ
    unfold f_M_pay_L49
    refine S.of1 (pc2 := 51) (fun Q => g_iload d_M_pay_49 rfl) ?_
    refine S.of1 (pc2 := 52) (fun Q => g_aload_n d_M_pay_51 rfl) ?_
    refine S.of1 (pc2 := 55) (fun Q => g_geti fl_RX11_81 gc_59_6 d_M_pay_52) ?_
    refine S.br (c := (σ.1 59 6) ≤ v6) (t := 126) (e := 58) (fun Q kt kf => g_icmp_ge d_M_pay_55 rfl kt kf) (fun h10 => ?_) (fun h10 => ?_)
    · refine S.of1 (pc2 := 129) (L2 := [some (.ref 59), some (.int v1), some (.int v2), some (.int v3), some (.int v4), some (.int (v5 + (1 : Int32))), some (.int v6)]) (fun Q => g_iinc d_M_pay_126 rfl (congrArg (fun z => v5 + z) (by decide)) (Nat.le_of_ble_eq_true rfl) rfl) ?_
      refine S.of1 (pc2 := 34) (fun Q => g_goto d_M_pay_129 rfl) ?_
      exact S.wk (L2 := [some (.ref 59), some (.int v1), some (.int v2), some (.int v3), some (.int v4), some (.int (v5 + (1 : Int32))), none]) (And.intro rfl (And.intro rfl (And.intro rfl (And.intro rfl (And.intro rfl (And.intro rfl trivial)))))) (hk34 v1 v2 v3 v4 (v5 + (1 : Int32)) σ)
    · refine S.of1 (pc2 := 59) (fun Q => g_aload_n d_M_pay_58 rfl) ?_
      refine S.of1 (pc2 := 62) (fun Q => g_getr fl_RX11_9 gc_59_0 d_M_pay_59) ?_
      refine S.of1 (pc2 := 64) (fun Q => g_iload d_M_pay_62 rfl) ?_
      refine S.chk (fun h11 => ?_)
      refine S.of1 (pc2 := 65) (fun Q => g_iald ga_60 (gix_in h11) d_M_pay_64) ?_
      refine S.of1 (pc2 := 66) (fun Q => g_aload_n d_M_pay_65 rfl) ?_
      refine S.of1 (pc2 := 69) (fun Q => g_getr fl_RX11_9 gc_59_0 d_M_pay_66) ?_
      refine S.of1 (pc2 := 71) (fun Q => g_iload d_M_pay_69 rfl) ?_
      refine S.chk (fun h12 => ?_)
      refine S.of1 (pc2 := 72) (fun Q => g_iald ga_60 (gix_in h12) d_M_pay_71) ?_
      refine S.br (c := (σ.1 60 v5.toNatClampNeg) = (σ.1 60 v6.toNatClampNeg)) (t := 120) (e := 75) (fun Q kt kf => g_icmp_eq d_M_pay_72 rfl kt kf) (fun h13 => ?_) (fun h13 => ?_)
      · refine S.of1 (pc2 := 123) (L2 := [some (.ref 59), some (.int v1), some (.int v2), some (.int v3), some (.int v4), some (.int v5), some (.int (v6 + (1 : Int32)))]) (fun Q => g_iinc d_M_pay_120 rfl (congrArg (fun z => v6 + z) (by decide)) (Nat.le_of_ble_eq_true rfl) rfl) ?_
        refine S.of1 (pc2 := 49) (fun Q => g_goto d_M_pay_123 rfl) ?_
        exact S.wk (L2 := [some (.ref 59), some (.int v1), some (.int v2), some (.int v3), some (.int v4), some (.int v5), some (.int (v6 + (1 : Int32)))]) (And.intro rfl (And.intro rfl (And.intro rfl (And.intro rfl (And.intro rfl (And.intro rfl (And.intro rfl trivial))))))) (ih v1 v2 v3 v4 v5 (v6 + (1 : Int32)) σ)
      · refine S.of1 (pc2 := 76) (fun Q => g_aload_n d_M_pay_75 rfl) ?_
        refine S.of1 (pc2 := 78) (fun Q => g_iload d_M_pay_76 rfl) ?_
        refine S.of1 (pc2 := 79) (fun Q => g_iload_n d_M_pay_78 rfl) ?_
        refine S.call_rI (pc3 := 82) rfl (c_M_costOf (d - 1) (by omega) v5 v1 σ) (fun Q => g_callV (M2 := m_M_costOf) (vs := [.int v5, .int v1]) (st := []) lv_RX11_232 gk_59 rfl rfl (Nat.le_of_ble_eq_true rfl) (by omega) (Nat.le_of_ble_eq_true rfl) rfl d_M_pay_79) (fun q14 => ?_)
        refine S.of1 (pc2 := 83) (fun Q => g_aload_n d_M_pay_82 rfl) ?_
        refine S.of1 (pc2 := 85) (fun Q => g_iload d_M_pay_83 rfl) ?_
        refine S.of1 (pc2 := 86) (fun Q => g_iload_n d_M_pay_85 rfl) ?_
        refine S.call_rI (pc3 := 89) rfl (c_M_costOf (d - 1) (by omega) v6 v1 σ) (fun Q => g_callV (M2 := m_M_costOf) (vs := [.int v6, .int v1]) (st := [.int q14]) lv_RX11_232 gk_59 rfl rfl (Nat.le_of_ble_eq_true rfl) (by omega) (Nat.le_of_ble_eq_true rfl) rfl d_M_pay_86) (fun q15 => ?_)
        refine S.of1 (pc2 := 90) (fun Q => g_iadd d_M_pay_89) ?_
        refine S.of1 (pc2 := 91) (fun Q => g_iload_n d_M_pay_90 rfl) ?_
        refine S.br (c := v3 ≤ (q14 + q15)) (t := 120) (e := 94) (fun Q kt kf => g_icmp_ge d_M_pay_91 rfl kt kf) (fun h16 => ?_) (fun h16 => ?_)
        · refine S.of1 (pc2 := 123) (L2 := [some (.ref 59), some (.int v1), some (.int v2), some (.int v3), some (.int v4), some (.int v5), some (.int (v6 + (1 : Int32)))]) (fun Q => g_iinc d_M_pay_120 rfl (congrArg (fun z => v6 + z) (by decide)) (Nat.le_of_ble_eq_true rfl) rfl) ?_
          refine S.of1 (pc2 := 49) (fun Q => g_goto d_M_pay_123 rfl) ?_
          exact S.wk (L2 := [some (.ref 59), some (.int v1), some (.int v2), some (.int v3), some (.int v4), some (.int v5), some (.int (v6 + (1 : Int32)))]) (And.intro rfl (And.intro rfl (And.intro rfl (And.intro rfl (And.intro rfl (And.intro rfl (And.intro rfl trivial))))))) (ih v1 v2 v3 v4 v5 (v6 + (1 : Int32)) σ)
        · refine S.of1 (pc2 := 95) (fun Q => g_aload_n d_M_pay_94 rfl) ?_
          refine S.of1 (pc2 := 97) (fun Q => g_iload d_M_pay_95 rfl) ?_
          refine S.of1 (pc2 := 98) (fun Q => g_iload_n d_M_pay_97 rfl) ?_
          refine S.call_rI (pc3 := 101) rfl (c_M_costOf (d - 1) (by omega) v5 v1 σ) (fun Q => g_callV (M2 := m_M_costOf) (vs := [.int v5, .int v1]) (st := []) lv_RX11_232 gk_59 rfl rfl (Nat.le_of_ble_eq_true rfl) (by omega) (Nat.le_of_ble_eq_true rfl) rfl d_M_pay_98) (fun q17 => ?_)
          refine S.of1 (pc2 := 102) (fun Q => g_aload_n d_M_pay_101 rfl) ?_
          refine S.of1 (pc2 := 104) (fun Q => g_iload d_M_pay_102 rfl) ?_
          refine S.of1 (pc2 := 105) (fun Q => g_iload_n d_M_pay_104 rfl) ?_
          refine S.call_rI (pc3 := 108) rfl (c_M_costOf (d - 1) (by omega) v6 v1 σ) (fun Q => g_callV (M2 := m_M_costOf) (vs := [.int v6, .int v1]) (st := [.int q17]) lv_RX11_232 gk_59 rfl rfl (Nat.le_of_ble_eq_true rfl) (by omega) (Nat.le_of_ble_eq_true rfl) rfl d_M_pay_105) (fun q18 => ?_)
          refine S.of1 (pc2 := 109) (fun Q => g_iadd d_M_pay_108) ?_
          refine S.of1 (pc2 := 110) (L2 := [some (.ref 59), some (.int v1), some (.int v2), some (.int (q17 + q18)), some (.int v4), some (.int v5), some (.int v6)]) (fun Q => g_istore_n d_M_pay_109 (Nat.le_of_ble_eq_true rfl) rfl) ?_
          refine S.of1 (pc2 := 112) (fun Q => g_bipush (v := (10 : Int32)) d_M_pay_110 (by decide)) ?_
          refine S.of1 (pc2 := 114) (fun Q => g_iload d_M_pay_112 rfl) ?_
          refine S.of1 (pc2 := 115) (fun Q => g_imul d_M_pay_114) ?_
          refine S.of1 (pc2 := 117) (fun Q => g_iload d_M_pay_115 rfl) ?_
          refine S.of1 (pc2 := 118) (fun Q => g_iadd d_M_pay_117) ?_
          refine S.of1 (pc2 := 120) (L2 := [some (.ref 59), some (.int v1), some (.int v2), some (.int (q17 + q18)), some (.int (((10 : Int32) * v5) + v6)), some (.int v5), some (.int v6)]) (fun Q => g_istore d_M_pay_118 (Nat.le_of_ble_eq_true rfl) rfl) ?_
          refine S.glt (x := (((10 : Int32) * v5) + v6)) (Lf := fun y => [some (.ref 59), some (.int v1), some (.int v2), some (.int (q17 + q18)), some (.int y), some (.int v5), some (.int v6)]) (fun x19 => ?_)
          refine S.of1 (pc2 := 123) (L2 := [some (.ref 59), some (.int v1), some (.int v2), some (.int (q17 + q18)), some (.int x19), some (.int v5), some (.int (v6 + (1 : Int32)))]) (fun Q => g_iinc d_M_pay_120 rfl (congrArg (fun z => v6 + z) (by decide)) (Nat.le_of_ble_eq_true rfl) rfl) ?_
          refine S.of1 (pc2 := 49) (fun Q => g_goto d_M_pay_123 rfl) ?_
          exact S.wk (L2 := [some (.ref 59), some (.int v1), some (.int v2), some (.int (q17 + q18)), some (.int x19), some (.int v5), some (.int (v6 + (1 : Int32)))]) (And.intro rfl (And.intro rfl (And.intro rfl (And.intro rfl (And.intro rfl (And.intro rfl (And.intro rfl trivial))))))) (ih v1 v2 (q17 + q18) x19 v5 (v6 + (1 : Int32)) σ)
def f_M_pay_L34 : Nat → Int32 → Int32 → Int32 → Int32 → Int32 → gS → Option (Int32 × gS)
  | 0, _, _, _, _, _, _ => none
  | n + 1, v1, v2, v3, v4, v5, σ =>
  if (σ.1 59 6) ≤ v5 then if v4 < 0 then f_M_pay_j142 v4 σ else if v2 = (1 : Int32) then f_M_pay_j142 v4 σ else some (v3, σ) else glt (v5 + (1 : Int32)) fun x9 => f_M_pay_L49 (fun v1 v2 v3 v4 v5 σ => f_M_pay_L34 n v1 v2 v3 v4 v5 σ) gfu v1 v2 v3 v4 v5 x9 σ
theorem s_M_pay_L34 (d : Nat) (hd : 60 ≤ d) : ∀ (n : Nat) (v1 : Int32) (v2 : Int32) (v3 : Int32) (v4 : Int32) (v5 : Int32) (σ : gS), S wI m_M_pay d 34 [some (.ref 59), some (.int v1), some (.int v2), some (.int v3), some (.int v4), some (.int v5), none] [] σ (f_M_pay_L34 n v1 v2 v3 v4 v5 σ) := by
  intro n
  induction n with
  | zero =>
    intros
    unfold f_M_pay_L34
    exact S.no
  | succ n ih =>
    intro v1 v2 v3 v4 v5 σ
    unfold f_M_pay_L34
    refine S.of1 (pc2 := 36) (fun Q => g_iload d_M_pay_34 rfl) ?_
    refine S.of1 (pc2 := 37) (fun Q => g_aload_n d_M_pay_36 rfl) ?_
    refine S.of1 (pc2 := 40) (fun Q => g_geti fl_RX11_81 gc_59_6 d_M_pay_37) ?_
    refine S.br (c := (σ.1 59 6) ≤ v5) (t := 132) (e := 43) (fun Q kt kf => g_icmp_ge d_M_pay_40 rfl kt kf) (fun h6 => ?_) (fun h6 => ?_)
    · refine S.of1 (pc2 := 134) (fun Q => g_iload d_M_pay_132 rfl) ?_
      refine S.br (c := v4 < 0) (t := 142) (e := 137) (fun Q kt kf => g_if_lt d_M_pay_134 rfl kt kf) (fun h7 => ?_) (fun h7 => ?_)
      · exact S.wk (L2 := [none, none, none, none, some (.int v4), none, none]) (And.intro rfl trivial) (s_M_pay_j142 d hd v4 σ)
      · refine S.of1 (pc2 := 138) (fun Q => g_iload_n d_M_pay_137 rfl) ?_
        refine S.of1 (pc2 := 139) (fun Q => g_iconst (v := (1 : Int32)) d_M_pay_138 (by decide)) ?_
        refine S.br (c := v2 = (1 : Int32)) (t := 142) (e := 147) (fun Q kt kf => g_icmp_ne d_M_pay_139 rfl kf kt) (fun h8 => ?_) (fun h8 => ?_)
        · exact S.wk (L2 := [none, none, none, none, some (.int v4), none, none]) (And.intro rfl trivial) (s_M_pay_j142 d hd v4 σ)
        · refine S.of1 (pc2 := 148) (fun Q => g_iload_n d_M_pay_147 rfl) ?_
          exact S.ret (fun Q hq => g_iret rfl d_M_pay_148 hq)
    · refine S.of1 (pc2 := 45) (fun Q => g_iload d_M_pay_43 rfl) ?_
      refine S.of1 (pc2 := 46) (fun Q => g_iconst (v := (1 : Int32)) d_M_pay_45 (by decide)) ?_
      refine S.of1 (pc2 := 47) (fun Q => g_iadd d_M_pay_46) ?_
      refine S.of1 (pc2 := 49) (L2 := [some (.ref 59), some (.int v1), some (.int v2), some (.int v3), some (.int v4), some (.int v5), some (.int (v5 + (1 : Int32)))]) (fun Q => g_istore d_M_pay_47 (Nat.le_of_ble_eq_true rfl) rfl) ?_
      refine S.glt (x := (v5 + (1 : Int32))) (Lf := fun y => [some (.ref 59), some (.int v1), some (.int v2), some (.int v3), some (.int v4), some (.int v5), some (.int y)]) (fun x9 => ?_)
      exact S.wk (L2 := [some (.ref 59), some (.int v1), some (.int v2), some (.int v3), some (.int v4), some (.int v5), some (.int x9)]) (And.intro rfl (And.intro rfl (And.intro rfl (And.intro rfl (And.intro rfl (And.intro rfl (And.intro rfl trivial))))))) (s_M_pay_L49 d hd (fun v1 v2 v3 v4 v5 σ => f_M_pay_L34 n v1 v2 v3 v4 v5 σ) (fun v1 v2 v3 v4 v5 τ => ih v1 v2 v3 v4 v5 τ) gfu v1 v2 v3 v4 v5 x9 σ)
def f_M_pay (v1 : Int32) (v2 : Int32) (σ : gS) : Option (Int32 × gS) :=
  (f_M_isWeather (v1.toInt64)).bind fun q1 => if q1 = 0 then some ((-1 : Int32), σ) else (f_M_within (v2.toInt64) (0 : Int64) (1 : Int64)).bind fun q3 => if q3 = 0 then some ((-1 : Int32), σ) else (f_M_allSayNow σ).bind fun s5 => f_M_pay_L34 gfu v1 v2 (1000000 : Int32) (-2 : Int32) (0 : Int32) s5
theorem c_M_pay (d : Nat) (hd : 60 ≤ d) (v1 : Int32) (v2 : Int32) (σ : gS) : C wI d m_M_pay [.ref 59, .int v1, .int v2] σ (f_M_pay v1 v2 σ) := by
  unfold f_M_pay
  refine C.of (by decide +kernel) (Nat.le_of_ble_eq_true rfl) (L := [some (.ref 59), some (.int v1), some (.int v2), none, none, none, none]) rfl ?_
  refine S.of1 (pc2 := 1) (fun Q => g_iload_n d_M_pay_0 rfl) ?_
  refine S.of1 (pc2 := 2) (fun Q => g_i2l d_M_pay_1) ?_
  refine S.call_rI (pc3 := 5) rfl (c_M_isWeather (d - 1) (by omega) (v1.toInt64) σ) (fun Q => g_callS (M2 := m_M_isWeather) (vs := [.long (v1.toInt64)]) (st := []) ls_RX11_119 rfl (Nat.le_of_ble_eq_true rfl) (by omega) (Nat.le_of_ble_eq_true rfl) rfl d_M_pay_2) (fun q1 => ?_)
  refine S.br (c := q1 = 0) (t := 18) (e := 8) (fun Q kt kf => g_if_eq d_M_pay_5 rfl kt kf) (fun h2 => ?_) (fun h2 => ?_)
  · refine S.of1 (pc2 := 19) (fun Q => g_iconst (v := (-1 : Int32)) d_M_pay_18 (by decide)) ?_
    exact S.ret (fun Q hq => g_iret rfl d_M_pay_19 hq)
  · refine S.of1 (pc2 := 9) (fun Q => g_iload_n d_M_pay_8 rfl) ?_
    refine S.of1 (pc2 := 10) (fun Q => g_i2l d_M_pay_9) ?_
    refine S.of1 (pc2 := 11) (fun Q => g_lconst (v := (0 : Int64)) d_M_pay_10 (by decide)) ?_
    refine S.of1 (pc2 := 12) (fun Q => g_lconst (v := (1 : Int64)) d_M_pay_11 (by decide)) ?_
    refine S.call_rI (pc3 := 15) rfl (c_M_within (d - 1) (by omega) (v2.toInt64) (0 : Int64) (1 : Int64) σ) (fun Q => g_callS (M2 := m_M_within) (vs := [.long (v2.toInt64), .long (0 : Int64), .long (1 : Int64)]) (st := []) ls_RX11_84 rfl (Nat.le_of_ble_eq_true rfl) (by omega) (Nat.le_of_ble_eq_true rfl) rfl d_M_pay_12) (fun q3 => ?_)
    refine S.br (c := q3 = 0) (t := 18) (e := 20) (fun Q kt kf => g_if_ne d_M_pay_15 rfl kf kt) (fun h4 => ?_) (fun h4 => ?_)
    · refine S.of1 (pc2 := 19) (fun Q => g_iconst (v := (-1 : Int32)) d_M_pay_18 (by decide)) ?_
      exact S.ret (fun Q hq => g_iret rfl d_M_pay_19 hq)
    · refine S.of1 (pc2 := 21) (fun Q => g_aload_n d_M_pay_20 rfl) ?_
      refine S.call_wV (pc3 := 24) rfl (c_M_allSayNow (d - 1) (by omega) σ) (fun Q => g_callV (M2 := m_M_allSayNow) (vs := []) (st := []) lv_RX11_208 gk_59 rfl rfl (Nat.le_of_ble_eq_true rfl) (by omega) (Nat.le_of_ble_eq_true rfl) rfl d_M_pay_21) (fun s5 => ?_)
      refine S.of1 (pc2 := 26) (fun Q => g_ldc (v := (1000000 : Int32)) d_M_pay_24 w_1444) ?_
      refine S.of1 (pc2 := 27) (L2 := [some (.ref 59), some (.int v1), some (.int v2), some (.int (1000000 : Int32)), none, none, none]) (fun Q => g_istore_n d_M_pay_26 (Nat.le_of_ble_eq_true rfl) rfl) ?_
      refine S.of1 (pc2 := 29) (fun Q => g_bipush (v := (-2 : Int32)) d_M_pay_27 (by decide)) ?_
      refine S.of1 (pc2 := 31) (L2 := [some (.ref 59), some (.int v1), some (.int v2), some (.int (1000000 : Int32)), some (.int (-2 : Int32)), none, none]) (fun Q => g_istore d_M_pay_29 (Nat.le_of_ble_eq_true rfl) rfl) ?_
      refine S.of1 (pc2 := 32) (fun Q => g_iconst (v := (0 : Int32)) d_M_pay_31 (by decide)) ?_
      refine S.of1 (pc2 := 34) (L2 := [some (.ref 59), some (.int v1), some (.int v2), some (.int (1000000 : Int32)), some (.int (-2 : Int32)), some (.int (0 : Int32)), none]) (fun Q => g_istore d_M_pay_32 (Nat.le_of_ble_eq_true rfl) rfl) ?_
      exact S.wk (L2 := [some (.ref 59), some (.int v1), some (.int v2), some (.int (1000000 : Int32)), some (.int (-2 : Int32)), some (.int (0 : Int32)), none]) (And.intro rfl (And.intro rfl (And.intro rfl (And.intro rfl (And.intro rfl (And.intro rfl trivial)))))) (s_M_pay_L34 d hd gfu v1 v2 (1000000 : Int32) (-2 : Int32) (0 : Int32) s5)
