def f_T_within (v0 : Int32) (v1 : Int32) : Option Int32 :=
  if v0 < 0 then some (0 : Int32) else if v1 ≤ v0 then some (0 : Int32) else some (1 : Int32)
theorem c_T_within (d : Nat) (hd : 1 ≤ d) (v0 : Int32) (v1 : Int32) (σ : gS) : C (rI σ) d m_T_within [.int v0, .int v1] σ (f_T_within v0 v1) := by
  unfold f_T_within
  refine C.of (by decide +kernel) (Nat.le_of_ble_eq_true rfl) (L := [some (.int v0), some (.int v1)]) rfl ?_
  refine S.of1 (pc2 := 1) (fun Q => g_iload_n d_T_within_0 rfl) ?_
  refine S.br (c := v0 < 0) (t := 13) (e := 4) (fun Q kt kf => g_if_lt d_T_within_1 rfl kt kf) (fun h1 => ?_) (fun h1 => ?_)
  · refine S.of1 (pc2 := 14) (fun Q => g_iconst (v := (0 : Int32)) d_T_within_13 (by decide)) ?_
    exact S.ret (fun Q hq => g_zret rfl rfl d_T_within_14 hq)
  · refine S.of1 (pc2 := 5) (fun Q => g_iload_n d_T_within_4 rfl) ?_
    refine S.of1 (pc2 := 6) (fun Q => g_iload_n d_T_within_5 rfl) ?_
    refine S.br (c := v1 ≤ v0) (t := 13) (e := 9) (fun Q kt kf => g_icmp_ge d_T_within_6 rfl kt kf) (fun h2 => ?_) (fun h2 => ?_)
    · refine S.of1 (pc2 := 14) (fun Q => g_iconst (v := (0 : Int32)) d_T_within_13 (by decide)) ?_
      exact S.ret (fun Q hq => g_zret rfl rfl d_T_within_14 hq)
    · refine S.of1 (pc2 := 10) (fun Q => g_iconst (v := (1 : Int32)) d_T_within_9 (by decide)) ?_
      refine S.of1 (pc2 := 14) (fun Q => g_goto d_T_within_10 rfl) ?_
      exact S.ret (fun Q hq => g_zret rfl rfl d_T_within_14 hq)
def f_Isl_welcome (v1 : Int32) (v2 : Int32) (v3 : Int32) (σ : gS) : Option (Int32 × gS) :=
  if (σ.1 1 6) < (10 : Int32) then if gix (σ.1 1 6) 10 then gup (gpi σ 2 (σ.1 1 6).toNatClampNeg v1) fun s3 => if gix (s3.1 1 6) 10 then gup (gpi s3 3 (s3.1 1 6).toNatClampNeg v2) fun s5 => if gix (s5.1 1 6) 10 then gup (gpi s5 4 (s5.1 1 6).toNatClampNeg v3) fun s7 => if gix (s7.1 1 6) 10 then gup (gpi s7 5 (s7.1 1 6).toNatClampNeg (-1 : Int32)) fun s9 => gup (gpi s9 1 6 ((s9.1 1 6) + (1 : Int32))) fun s10 => some (((s10.1 1 6) - (1 : Int32)), s10) else none else none else none else none else some ((-3 : Int32), σ)
theorem c_Isl_welcome (d : Nat) (hd : 1 ≤ d) (v1 : Int32) (v2 : Int32) (v3 : Int32) (σ : gS) : C wI d m_Isl_welcome [.ref 1, .int v1, .int v2, .int v3] σ (f_Isl_welcome v1 v2 v3 σ) := by
  unfold f_Isl_welcome
  refine C.of (by decide +kernel) (Nat.le_of_ble_eq_true rfl) (L := [some (.ref 1), some (.int v1), some (.int v2), some (.int v3)]) rfl ?_
  refine S.of1 (pc2 := 1) (fun Q => g_aload_n d_Isl_welcome_0 rfl) ?_
  refine S.of1 (pc2 := 4) (fun Q => g_geti fl_RX3_34 gc_1_6 d_Isl_welcome_1) ?_
  refine S.of1 (pc2 := 6) (fun Q => g_bipush (v := (10 : Int32)) d_Isl_welcome_4 (by decide)) ?_
  refine S.br (c := (σ.1 1 6) < (10 : Int32)) (t := 12) (e := 9) (fun Q kt kf => g_icmp_lt d_Isl_welcome_6 rfl kt kf) (fun h1 => ?_) (fun h1 => ?_)
  · refine S.of1 (pc2 := 13) (fun Q => g_aload_n d_Isl_welcome_12 rfl) ?_
    refine S.of1 (pc2 := 16) (fun Q => g_getr fl_RX3_9 gc_1_0 d_Isl_welcome_13) ?_
    refine S.of1 (pc2 := 17) (fun Q => g_aload_n d_Isl_welcome_16 rfl) ?_
    refine S.of1 (pc2 := 20) (fun Q => g_geti fl_RX3_34 gc_1_6 d_Isl_welcome_17) ?_
    refine S.of1 (pc2 := 21) (fun Q => g_iload_n d_Isl_welcome_20 rfl) ?_
    refine S.chk (fun h2 => ?_)
    refine S.of1 (pc2 := 22) (fun Q => g_iast ga_2 (gix_in h2) d_Isl_welcome_21) ?_
    refine S.gup (fun s3 => ?_)
    refine S.of1 (pc2 := 23) (fun Q => g_aload_n d_Isl_welcome_22 rfl) ?_
    refine S.of1 (pc2 := 26) (fun Q => g_getr fl_RX3_15 gc_1_1 d_Isl_welcome_23) ?_
    refine S.of1 (pc2 := 27) (fun Q => g_aload_n d_Isl_welcome_26 rfl) ?_
    refine S.of1 (pc2 := 30) (fun Q => g_geti fl_RX3_34 gc_1_6 d_Isl_welcome_27) ?_
    refine S.of1 (pc2 := 31) (fun Q => g_iload_n d_Isl_welcome_30 rfl) ?_
    refine S.chk (fun h4 => ?_)
    refine S.of1 (pc2 := 32) (fun Q => g_iast ga_3 (gix_in h4) d_Isl_welcome_31) ?_
    refine S.gup (fun s5 => ?_)
    refine S.of1 (pc2 := 33) (fun Q => g_aload_n d_Isl_welcome_32 rfl) ?_
    refine S.of1 (pc2 := 36) (fun Q => g_getr fl_RX3_18 gc_1_2 d_Isl_welcome_33) ?_
    refine S.of1 (pc2 := 37) (fun Q => g_aload_n d_Isl_welcome_36 rfl) ?_
    refine S.of1 (pc2 := 40) (fun Q => g_geti fl_RX3_34 gc_1_6 d_Isl_welcome_37) ?_
    refine S.of1 (pc2 := 41) (fun Q => g_iload_n d_Isl_welcome_40 rfl) ?_
    refine S.chk (fun h6 => ?_)
    refine S.of1 (pc2 := 42) (fun Q => g_iast ga_4 (gix_in h6) d_Isl_welcome_41) ?_
    refine S.gup (fun s7 => ?_)
    refine S.of1 (pc2 := 43) (fun Q => g_aload_n d_Isl_welcome_42 rfl) ?_
    refine S.of1 (pc2 := 46) (fun Q => g_getr fl_RX3_21 gc_1_3 d_Isl_welcome_43) ?_
    refine S.of1 (pc2 := 47) (fun Q => g_aload_n d_Isl_welcome_46 rfl) ?_
    refine S.of1 (pc2 := 50) (fun Q => g_geti fl_RX3_34 gc_1_6 d_Isl_welcome_47) ?_
    refine S.of1 (pc2 := 51) (fun Q => g_iconst (v := (-1 : Int32)) d_Isl_welcome_50 (by decide)) ?_
    refine S.chk (fun h8 => ?_)
    refine S.of1 (pc2 := 52) (fun Q => g_iast ga_5 (gix_in h8) d_Isl_welcome_51) ?_
    refine S.gup (fun s9 => ?_)
    refine S.of1 (pc2 := 53) (fun Q => g_aload_n d_Isl_welcome_52 rfl) ?_
    refine S.of1 (pc2 := 54) (fun Q => g_dup d_Isl_welcome_53 rfl) ?_
    refine S.of1 (pc2 := 57) (fun Q => g_geti fl_RX3_34 gc_1_6 d_Isl_welcome_54) ?_
    refine S.of1 (pc2 := 58) (fun Q => g_iconst (v := (1 : Int32)) d_Isl_welcome_57 (by decide)) ?_
    refine S.of1 (pc2 := 59) (fun Q => g_iadd d_Isl_welcome_58) ?_
    refine S.of1 (pc2 := 62) (fun Q => g_puti fl_RX3_34 gc_1_6 rfl rfl d_Isl_welcome_59) ?_
    refine S.gup (fun s10 => ?_)
    refine S.of1 (pc2 := 63) (fun Q => g_aload_n d_Isl_welcome_62 rfl) ?_
    refine S.of1 (pc2 := 66) (fun Q => g_geti fl_RX3_34 gc_1_6 d_Isl_welcome_63) ?_
    refine S.of1 (pc2 := 67) (fun Q => g_iconst (v := (1 : Int32)) d_Isl_welcome_66 (by decide)) ?_
    refine S.of1 (pc2 := 68) (fun Q => g_isub d_Isl_welcome_67) ?_
    exact S.ret (fun Q hq => g_iret rfl d_Isl_welcome_68 hq)
  · refine S.of1 (pc2 := 11) (fun Q => g_bipush (v := (-3 : Int32)) d_Isl_welcome_9 (by decide)) ?_
    exact S.ret (fun Q hq => g_iret rfl d_Isl_welcome_11 hq)
def f_T_citizen (v1 : Int32) (σ : gS) : Option (Int32 × gS) :=
  (f_T_within v1 (8 : Int32)).bind fun q1 => if q1 = 0 then some ((-1 : Int32), σ) else (f_Isl_welcome v1 (9 : Int32) (10 : Int32) σ).bind fun q3 => some (q3.1, q3.2)
theorem c_T_citizen (d : Nat) (hd : 2 ≤ d) (v1 : Int32) (σ : gS) : C wI d m_T_citizen [.ref 0, .int v1] σ (f_T_citizen v1 σ) := by
  unfold f_T_citizen
  refine C.of (by decide +kernel) (Nat.le_of_ble_eq_true rfl) (L := [some (.ref 0), some (.int v1)]) rfl ?_
  refine S.of1 (pc2 := 1) (fun Q => g_iload_n d_T_citizen_0 rfl) ?_
  refine S.of1 (pc2 := 3) (fun Q => g_bipush (v := (8 : Int32)) d_T_citizen_1 (by decide)) ?_
  refine S.call_rI (pc3 := 6) rfl (c_T_within (d - 1) (by omega) v1 (8 : Int32) σ) (fun Q => g_callS (M2 := m_T_within) (vs := [.int v1, .int (8 : Int32)]) (st := []) ls_RX10_72 rfl (Nat.le_of_ble_eq_true rfl) (by omega) (Nat.le_of_ble_eq_true rfl) rfl d_T_citizen_3) (fun q1 => ?_)
  refine S.br (c := q1 = 0) (t := 9) (e := 11) (fun Q kt kf => g_if_ne d_T_citizen_6 rfl kf kt) (fun h2 => ?_) (fun h2 => ?_)
  · refine S.of1 (pc2 := 10) (fun Q => g_iconst (v := (-1 : Int32)) d_T_citizen_9 (by decide)) ?_
    exact S.ret (fun Q hq => g_iret rfl d_T_citizen_10 hq)
  · refine S.of1 (pc2 := 12) (fun Q => g_aload_n d_T_citizen_11 rfl) ?_
    refine S.of1 (pc2 := 15) (fun Q => g_getr fl_RX10_10 gc_0_0 d_T_citizen_12) ?_
    refine S.of1 (pc2 := 16) (fun Q => g_iload_n d_T_citizen_15 rfl) ?_
    refine S.of1 (pc2 := 18) (fun Q => g_bipush (v := (9 : Int32)) d_T_citizen_16 (by decide)) ?_
    refine S.of1 (pc2 := 20) (fun Q => g_bipush (v := (10 : Int32)) d_T_citizen_18 (by decide)) ?_
    refine S.call_wI (pc3 := 23) rfl (c_Isl_welcome (d - 1) (by omega) v1 (9 : Int32) (10 : Int32) σ) (fun Q => g_callV (M2 := m_Isl_welcome) (vs := [.int v1, .int (9 : Int32), .int (10 : Int32)]) (st := []) lv_RX10_76 gk_1 rfl rfl (Nat.le_of_ble_eq_true rfl) (by omega) (Nat.le_of_ble_eq_true rfl) rfl d_T_citizen_20) (fun q3 => ?_)
    exact S.ret (fun Q hq => g_iret rfl d_T_citizen_23 hq)
def f_Isl_takes (v0 : Int32) (v1 : Int32) (σ : gS) : Option Int32 :=
  (f_T_within v0 (7 : Int32)).bind fun q1 => if q1 = 0 then some (0 : Int32) else if gix v0 7 then if v1 < (tb_LEAST.getD v0.toNatClampNeg 0) then some (0 : Int32) else if gix v0 7 then if (tb_MOST.getD v0.toNatClampNeg 0) < v1 then some (0 : Int32) else some (1 : Int32) else none else none
theorem c_Isl_takes (d : Nat) (hd : 2 ≤ d) (v0 : Int32) (v1 : Int32) (σ : gS) : C (rI σ) d m_Isl_takes [.int v0, .int v1] σ (f_Isl_takes v0 v1 σ) := by
  unfold f_Isl_takes
  refine C.of (by decide +kernel) (Nat.le_of_ble_eq_true rfl) (L := [some (.int v0), some (.int v1)]) rfl ?_
  refine S.of1 (pc2 := 1) (fun Q => g_iload_n d_Isl_takes_0 rfl) ?_
  refine S.of1 (pc2 := 4) (fun Q => g_gets q_MOST (List.mem_of_getElem? (i := 1) rfl) w_493 d_Isl_takes_1) ?_
  refine S.of1 (pc2 := 5) (fun Q => g_tlen (v := (7 : Int32)) q_MOST (List.mem_of_getElem? (i := 1) rfl) (by decide) d_Isl_takes_4) ?_
  refine S.call_rI (pc3 := 8) rfl (c_T_within (d - 1) (by omega) v0 (7 : Int32) σ) (fun Q => g_callSN (M2 := m_T_within) (vs := [.int v0, .int (7 : Int32)]) (st := []) ln_RX3_55 rfl (Nat.le_of_ble_eq_true rfl) (by omega) (Nat.le_of_ble_eq_true rfl) rfl d_Isl_takes_5) (fun q1 => ?_)
  refine S.br (c := q1 = 0) (t := 33) (e := 11) (fun Q kt kf => g_if_eq d_Isl_takes_8 rfl kt kf) (fun h2 => ?_) (fun h2 => ?_)
  · refine S.of1 (pc2 := 34) (fun Q => g_iconst (v := (0 : Int32)) d_Isl_takes_33 (by decide)) ?_
    exact S.ret (fun Q hq => g_zret rfl rfl d_Isl_takes_34 hq)
  · refine S.of1 (pc2 := 12) (fun Q => g_iload_n d_Isl_takes_11 rfl) ?_
    refine S.of1 (pc2 := 15) (fun Q => g_gets q_LEAST (List.mem_of_getElem? (i := 0) rfl) w_496 d_Isl_takes_12) ?_
    refine S.of1 (pc2 := 16) (fun Q => g_iload_n d_Isl_takes_15 rfl) ?_
    refine S.chk (fun h3 => ?_)
    refine S.of1 (pc2 := 17) (fun Q => g_tald q_LEAST (List.mem_of_getElem? (i := 0) rfl) (gix_in h3) d_Isl_takes_16) ?_
    refine S.br (c := v1 < (tb_LEAST.getD v0.toNatClampNeg 0)) (t := 33) (e := 20) (fun Q kt kf => g_icmp_lt d_Isl_takes_17 rfl kt kf) (fun h4 => ?_) (fun h4 => ?_)
    · refine S.of1 (pc2 := 34) (fun Q => g_iconst (v := (0 : Int32)) d_Isl_takes_33 (by decide)) ?_
      exact S.ret (fun Q hq => g_zret rfl rfl d_Isl_takes_34 hq)
    · refine S.of1 (pc2 := 21) (fun Q => g_iload_n d_Isl_takes_20 rfl) ?_
      refine S.of1 (pc2 := 24) (fun Q => g_gets q_MOST (List.mem_of_getElem? (i := 1) rfl) w_493 d_Isl_takes_21) ?_
      refine S.of1 (pc2 := 25) (fun Q => g_iload_n d_Isl_takes_24 rfl) ?_
      refine S.chk (fun h5 => ?_)
      refine S.of1 (pc2 := 26) (fun Q => g_tald q_MOST (List.mem_of_getElem? (i := 1) rfl) (gix_in h5) d_Isl_takes_25) ?_
      refine S.br (c := (tb_MOST.getD v0.toNatClampNeg 0) < v1) (t := 33) (e := 29) (fun Q kt kf => g_icmp_gt d_Isl_takes_26 rfl kt kf) (fun h6 => ?_) (fun h6 => ?_)
      · refine S.of1 (pc2 := 34) (fun Q => g_iconst (v := (0 : Int32)) d_Isl_takes_33 (by decide)) ?_
        exact S.ret (fun Q hq => g_zret rfl rfl d_Isl_takes_34 hq)
      · refine S.of1 (pc2 := 30) (fun Q => g_iconst (v := (1 : Int32)) d_Isl_takes_29 (by decide)) ?_
        refine S.of1 (pc2 := 34) (fun Q => g_goto d_Isl_takes_30 rfl) ?_
        exact S.ret (fun Q hq => g_zret rfl rfl d_Isl_takes_34 hq)
def f_Sh_has (c : Nat) (v1 : Int32) (v2 : Int32) (σ : gS) : Option Int32 :=
  if v1 < 0 then some (0 : Int32) else if v2 < 0 then some (0 : Int32) else if (σ.1 c 4) < v1 then some (0 : Int32) else if ((σ.1 c 4) - v1) < v2 then some (0 : Int32) else some (1 : Int32)
theorem c_Sh_has (d : Nat) (hd : 1 ≤ d) (c : Nat) (hc : gcls c = some 8) (v1 : Int32) (v2 : Int32) (σ : gS) : C (rI σ) d m_Sh_has [.ref c, .int v1, .int v2] σ (f_Sh_has c v1 v2 σ) := by
  unfold f_Sh_has
  refine C.of (by decide +kernel) (Nat.le_of_ble_eq_true rfl) (L := [some (.ref c), some (.int v1), some (.int v2)]) rfl ?_
  refine S.of1 (pc2 := 1) (fun Q => g_iload_n d_Sh_has_0 rfl) ?_
  refine S.br (c := v1 < 0) (t := 30) (e := 4) (fun Q kt kf => g_if_lt d_Sh_has_1 rfl kt kf) (fun h1 => ?_) (fun h1 => ?_)
  · refine S.of1 (pc2 := 31) (fun Q => g_iconst (v := (0 : Int32)) d_Sh_has_30 (by decide)) ?_
    exact S.ret (fun Q hq => g_zret rfl rfl d_Sh_has_31 hq)
  · refine S.of1 (pc2 := 5) (fun Q => g_iload_n d_Sh_has_4 rfl) ?_
    refine S.br (c := v2 < 0) (t := 30) (e := 8) (fun Q kt kf => g_if_lt d_Sh_has_5 rfl kt kf) (fun h2 => ?_) (fun h2 => ?_)
    · refine S.of1 (pc2 := 31) (fun Q => g_iconst (v := (0 : Int32)) d_Sh_has_30 (by decide)) ?_
      exact S.ret (fun Q hq => g_zret rfl rfl d_Sh_has_31 hq)
    · refine S.of1 (pc2 := 9) (fun Q => g_iload_n d_Sh_has_8 rfl) ?_
      refine S.of1 (pc2 := 10) (fun Q => g_aload_n d_Sh_has_9 rfl) ?_
      refine S.of1 (pc2 := 13) (fun Q => g_geti fl_RX8_31 (gq_8_4 hc) d_Sh_has_10) ?_
      refine S.br (c := (σ.1 c 4) < v1) (t := 30) (e := 16) (fun Q kt kf => g_icmp_gt d_Sh_has_13 rfl kt kf) (fun h3 => ?_) (fun h3 => ?_)
      · refine S.of1 (pc2 := 31) (fun Q => g_iconst (v := (0 : Int32)) d_Sh_has_30 (by decide)) ?_
        exact S.ret (fun Q hq => g_zret rfl rfl d_Sh_has_31 hq)
      · refine S.of1 (pc2 := 17) (fun Q => g_iload_n d_Sh_has_16 rfl) ?_
        refine S.of1 (pc2 := 18) (fun Q => g_aload_n d_Sh_has_17 rfl) ?_
        refine S.of1 (pc2 := 21) (fun Q => g_geti fl_RX8_31 (gq_8_4 hc) d_Sh_has_18) ?_
        refine S.of1 (pc2 := 22) (fun Q => g_iload_n d_Sh_has_21 rfl) ?_
        refine S.of1 (pc2 := 23) (fun Q => g_isub d_Sh_has_22) ?_
        refine S.br (c := ((σ.1 c 4) - v1) < v2) (t := 30) (e := 26) (fun Q kt kf => g_icmp_gt d_Sh_has_23 rfl kt kf) (fun h4 => ?_) (fun h4 => ?_)
        · refine S.of1 (pc2 := 31) (fun Q => g_iconst (v := (0 : Int32)) d_Sh_has_30 (by decide)) ?_
          exact S.ret (fun Q hq => g_zret rfl rfl d_Sh_has_31 hq)
        · refine S.of1 (pc2 := 27) (fun Q => g_iconst (v := (1 : Int32)) d_Sh_has_26 (by decide)) ?_
          refine S.of1 (pc2 := 31) (fun Q => g_goto d_Sh_has_27 rfl) ?_
          exact S.ret (fun Q hq => g_zret rfl rfl d_Sh_has_31 hq)
def f_Sh_small (c : Nat) (v1 : Int32) (σ : gS) : Option Int32 :=
  (f_Sh_has c v1 (1 : Int32) σ).bind fun q1 => if q1 = 0 then some (-1 : Int32) else if gix v1 60 then some ((σ.2 (c + 1) v1.toNatClampNeg).toInt32) else none
theorem c_Sh_small (d : Nat) (hd : 2 ≤ d) (c : Nat) (hc : gcls c = some 8) (v1 : Int32) (σ : gS) : C (rI σ) d m_Sh_small [.ref c, .int v1] σ (f_Sh_small c v1 σ) := by
  unfold f_Sh_small
  refine C.of (by decide +kernel) (Nat.le_of_ble_eq_true rfl) (L := [some (.ref c), some (.int v1)]) rfl ?_
  refine S.of1 (pc2 := 1) (fun Q => g_aload_n d_Sh_small_0 rfl) ?_
  refine S.of1 (pc2 := 2) (fun Q => g_iload_n d_Sh_small_1 rfl) ?_
  refine S.of1 (pc2 := 3) (fun Q => g_iconst (v := (1 : Int32)) d_Sh_small_2 (by decide)) ?_
  refine S.call_rI (pc3 := 6) rfl (c_Sh_has (d - 1) (by omega) c hc v1 (1 : Int32) σ) (fun Q => g_callV (M2 := m_Sh_has) (vs := [.int v1, .int (1 : Int32)]) (st := []) lv_RX8_34 hc rfl rfl (Nat.le_of_ble_eq_true rfl) (by omega) (Nat.le_of_ble_eq_true rfl) rfl d_Sh_small_3) (fun q1 => ?_)
  refine S.br (c := q1 = 0) (t := 19) (e := 9) (fun Q kt kf => g_if_eq d_Sh_small_6 rfl kt kf) (fun h2 => ?_) (fun h2 => ?_)
  · refine S.of1 (pc2 := 20) (fun Q => g_iconst (v := (-1 : Int32)) d_Sh_small_19 (by decide)) ?_
    exact S.ret (fun Q hq => g_iret rfl d_Sh_small_20 hq)
  · refine S.of1 (pc2 := 10) (fun Q => g_aload_n d_Sh_small_9 rfl) ?_
    refine S.of1 (pc2 := 13) (fun Q => g_getr fl_RX8_11 (gq_8_0 hc) d_Sh_small_10) ?_
    refine S.of1 (pc2 := 14) (fun Q => g_iload_n d_Sh_small_13 rfl) ?_
    refine S.chk (fun h3 => ?_)
    refine S.of1 (pc2 := 15) (fun Q => g_lald (gp_8_0 hc) (gix_in h3) d_Sh_small_14) ?_
    refine S.of1 (pc2 := 16) (fun Q => g_l2i d_Sh_small_15) ?_
    refine S.of1 (pc2 := 20) (fun Q => g_goto d_Sh_small_16 rfl) ?_
    exact S.ret (fun Q hq => g_iret rfl d_Sh_small_20 hq)
def f_Isl_welcomeThree_L2 (r1 : Nat) : Nat → Int32 → Int32 → gS → Option (Int32 × gS)
  | 0, _, _, _ => none
  | n + 1, v2, v3, σ =>
  if (3 : Int32) ≤ v3 then (f_Sh_small r1 v2 σ).bind fun q2 => (f_Sh_small r1 (v2 + (1 : Int32)) σ).bind fun q3 => (f_Sh_small r1 (v2 + (2 : Int32)) σ).bind fun q4 => (f_Isl_welcome q2 q3 q4 σ).bind fun q5 => some (q5.1, q5.2) else (f_Sh_small r1 (v2 + v3) σ).bind fun q6 => (f_Isl_takes v3 q6 σ).bind fun q7 => if q7 = 0 then some ((-1 : Int32), σ) else (fun v2 v3 σ => f_Isl_welcomeThree_L2 r1 n v2 v3 σ) v2 (v3 + (1 : Int32)) σ
theorem s_Isl_welcomeThree_L2 (d : Nat) (hd : 3 ≤ d) (r1 : Nat) (hr1 : gcls r1 = some 8) : ∀ (n : Nat) (v2 : Int32) (v3 : Int32) (σ : gS), S wI m_Isl_welcomeThree d 2 [some (.ref 1), some (.ref r1), some (.int v2), some (.int v3)] [] σ (f_Isl_welcomeThree_L2 r1 n v2 v3 σ) := by
  intro n
  induction n with
  | zero =>
    intros
    unfold f_Isl_welcomeThree_L2
    exact S.no
  | succ n ih =>
    intro v2 v3 σ
    unfold f_Isl_welcomeThree_L2
    refine S.of1 (pc2 := 3) (fun Q => g_iload_n d_Isl_welcomeThree_2 rfl) ?_
    refine S.of1 (pc2 := 4) (fun Q => g_iconst (v := (3 : Int32)) d_Isl_welcomeThree_3 (by decide)) ?_
    refine S.br (c := (3 : Int32) ≤ v3) (t := 29) (e := 7) (fun Q kt kf => g_icmp_ge d_Isl_welcomeThree_4 rfl kt kf) (fun h1 => ?_) (fun h1 => ?_)
    · refine S.of1 (pc2 := 30) (fun Q => g_aload_n d_Isl_welcomeThree_29 rfl) ?_
      refine S.of1 (pc2 := 31) (fun Q => g_aload_n d_Isl_welcomeThree_30 rfl) ?_
      refine S.of1 (pc2 := 32) (fun Q => g_iload_n d_Isl_welcomeThree_31 rfl) ?_
      refine S.call_rI (pc3 := 35) rfl (c_Sh_small (d - 1) (by omega) r1 hr1 v2 σ) (fun Q => g_callV (M2 := m_Sh_small) (vs := [.int v2]) (st := [.ref 1]) lv_RX3_38 hr1 rfl rfl (Nat.le_of_ble_eq_true rfl) (by omega) (Nat.le_of_ble_eq_true rfl) rfl d_Isl_welcomeThree_32) (fun q2 => ?_)
      refine S.of1 (pc2 := 36) (fun Q => g_aload_n d_Isl_welcomeThree_35 rfl) ?_
      refine S.of1 (pc2 := 37) (fun Q => g_iload_n d_Isl_welcomeThree_36 rfl) ?_
      refine S.of1 (pc2 := 38) (fun Q => g_iconst (v := (1 : Int32)) d_Isl_welcomeThree_37 (by decide)) ?_
      refine S.of1 (pc2 := 39) (fun Q => g_iadd d_Isl_welcomeThree_38) ?_
      refine S.call_rI (pc3 := 42) rfl (c_Sh_small (d - 1) (by omega) r1 hr1 (v2 + (1 : Int32)) σ) (fun Q => g_callV (M2 := m_Sh_small) (vs := [.int (v2 + (1 : Int32))]) (st := [.int q2, .ref 1]) lv_RX3_38 hr1 rfl rfl (Nat.le_of_ble_eq_true rfl) (by omega) (Nat.le_of_ble_eq_true rfl) rfl d_Isl_welcomeThree_39) (fun q3 => ?_)
      refine S.of1 (pc2 := 43) (fun Q => g_aload_n d_Isl_welcomeThree_42 rfl) ?_
      refine S.of1 (pc2 := 44) (fun Q => g_iload_n d_Isl_welcomeThree_43 rfl) ?_
      refine S.of1 (pc2 := 45) (fun Q => g_iconst (v := (2 : Int32)) d_Isl_welcomeThree_44 (by decide)) ?_
      refine S.of1 (pc2 := 46) (fun Q => g_iadd d_Isl_welcomeThree_45) ?_
      refine S.call_rI (pc3 := 49) rfl (c_Sh_small (d - 1) (by omega) r1 hr1 (v2 + (2 : Int32)) σ) (fun Q => g_callV (M2 := m_Sh_small) (vs := [.int (v2 + (2 : Int32))]) (st := [.int q3, .int q2, .ref 1]) lv_RX3_38 hr1 rfl rfl (Nat.le_of_ble_eq_true rfl) (by omega) (Nat.le_of_ble_eq_true rfl) rfl d_Isl_welcomeThree_46) (fun q4 => ?_)
      refine S.call_wI (pc3 := 52) rfl (c_Isl_welcome (d - 1) (by omega) q2 q3 q4 σ) (fun Q => g_callV (M2 := m_Isl_welcome) (vs := [.int q2, .int q3, .int q4]) (st := []) lv_RX3_48 gk_1 rfl rfl (Nat.le_of_ble_eq_true rfl) (by omega) (Nat.le_of_ble_eq_true rfl) rfl d_Isl_welcomeThree_49) (fun q5 => ?_)
      exact S.ret (fun Q hq => g_iret rfl d_Isl_welcomeThree_52 hq)
    · refine S.of1 (pc2 := 8) (fun Q => g_iload_n d_Isl_welcomeThree_7 rfl) ?_
      refine S.of1 (pc2 := 9) (fun Q => g_aload_n d_Isl_welcomeThree_8 rfl) ?_
      refine S.of1 (pc2 := 10) (fun Q => g_iload_n d_Isl_welcomeThree_9 rfl) ?_
      refine S.of1 (pc2 := 11) (fun Q => g_iload_n d_Isl_welcomeThree_10 rfl) ?_
      refine S.of1 (pc2 := 12) (fun Q => g_iadd d_Isl_welcomeThree_11) ?_
      refine S.call_rI (pc3 := 15) rfl (c_Sh_small (d - 1) (by omega) r1 hr1 (v2 + v3) σ) (fun Q => g_callV (M2 := m_Sh_small) (vs := [.int (v2 + v3)]) (st := [.int v3]) lv_RX3_38 hr1 rfl rfl (Nat.le_of_ble_eq_true rfl) (by omega) (Nat.le_of_ble_eq_true rfl) rfl d_Isl_welcomeThree_12) (fun q6 => ?_)
      refine S.call_rI (pc3 := 18) rfl (c_Isl_takes (d - 1) (by omega) v3 q6 σ) (fun Q => g_callS (M2 := m_Isl_takes) (vs := [.int v3, .int q6]) (st := []) ls_RX3_44 rfl (Nat.le_of_ble_eq_true rfl) (by omega) (Nat.le_of_ble_eq_true rfl) rfl d_Isl_welcomeThree_15) (fun q7 => ?_)
      refine S.br (c := q7 = 0) (t := 21) (e := 23) (fun Q kt kf => g_if_ne d_Isl_welcomeThree_18 rfl kf kt) (fun h8 => ?_) (fun h8 => ?_)
      · refine S.of1 (pc2 := 22) (fun Q => g_iconst (v := (-1 : Int32)) d_Isl_welcomeThree_21 (by decide)) ?_
        exact S.ret (fun Q hq => g_iret rfl d_Isl_welcomeThree_22 hq)
      · refine S.of1 (pc2 := 26) (L2 := [some (.ref 1), some (.ref r1), some (.int v2), some (.int (v3 + (1 : Int32)))]) (fun Q => g_iinc d_Isl_welcomeThree_23 rfl (congrArg (fun z => v3 + z) (by decide)) (Nat.le_of_ble_eq_true rfl) rfl) ?_
        refine S.of1 (pc2 := 2) (fun Q => g_goto d_Isl_welcomeThree_26 rfl) ?_
        exact S.wk (L2 := [some (.ref 1), some (.ref r1), some (.int v2), some (.int (v3 + (1 : Int32)))]) (And.intro rfl (And.intro rfl (And.intro rfl (And.intro rfl trivial)))) (ih v2 (v3 + (1 : Int32)) σ)
def f_Isl_welcomeThree (r1 : Nat) (v2 : Int32) (σ : gS) : Option (Int32 × gS) :=
  f_Isl_welcomeThree_L2 r1 gfu v2 (0 : Int32) σ
theorem c_Isl_welcomeThree (d : Nat) (hd : 3 ≤ d) (r1 : Nat) (hr1 : gcls r1 = some 8) (v2 : Int32) (σ : gS) : C wI d m_Isl_welcomeThree [.ref 1, .ref r1, .int v2] σ (f_Isl_welcomeThree r1 v2 σ) := by
  unfold f_Isl_welcomeThree
  refine C.of (by decide +kernel) (Nat.le_of_ble_eq_true rfl) (L := [some (.ref 1), some (.ref r1), some (.int v2), none]) rfl ?_
  refine S.of1 (pc2 := 1) (fun Q => g_iconst (v := (0 : Int32)) d_Isl_welcomeThree_0 (by decide)) ?_
  refine S.of1 (pc2 := 2) (L2 := [some (.ref 1), some (.ref r1), some (.int v2), some (.int (0 : Int32))]) (fun Q => g_istore_n d_Isl_welcomeThree_1 (Nat.le_of_ble_eq_true rfl) rfl) ?_
  exact S.wk (L2 := [some (.ref 1), some (.ref r1), some (.int v2), some (.int (0 : Int32))]) (And.intro rfl (And.intro rfl (And.intro rfl (And.intro rfl trivial)))) (s_Isl_welcomeThree_L2 d hd r1 hr1 gfu v2 (0 : Int32) σ)
def f_Sh_isOfBytes (c : Nat) (σ : gS) : Option Int32 :=
  if (σ.1 c 1) = (2 : Int32) then if (σ.1 c 3) = 0 then some (1 : Int32) else some (0 : Int32) else some (0 : Int32)
theorem c_Sh_isOfBytes (d : Nat) (hd : 1 ≤ d) (c : Nat) (hc : gcls c = some 8) (σ : gS) : C (rI σ) d m_Sh_isOfBytes [.ref c] σ (f_Sh_isOfBytes c σ) := by
  unfold f_Sh_isOfBytes
  refine C.of (by decide +kernel) (Nat.le_of_ble_eq_true rfl) (L := [some (.ref c)]) rfl ?_
  refine S.of1 (pc2 := 1) (fun Q => g_aload_n d_Sh_isOfBytes_0 rfl) ?_
  refine S.of1 (pc2 := 4) (fun Q => g_geti fl_RX8_15 (gq_8_1 hc) d_Sh_isOfBytes_1) ?_
  refine S.of1 (pc2 := 5) (fun Q => g_iconst (v := (2 : Int32)) d_Sh_isOfBytes_4 (by decide)) ?_
  refine S.br (c := (σ.1 c 1) = (2 : Int32)) (t := 8) (e := 19) (fun Q kt kf => g_icmp_ne d_Sh_isOfBytes_5 rfl kf kt) (fun h1 => ?_) (fun h1 => ?_)
  · refine S.of1 (pc2 := 9) (fun Q => g_aload_n d_Sh_isOfBytes_8 rfl) ?_
    refine S.of1 (pc2 := 12) (fun Q => g_geti fl_RX8_28 (gq_8_3 hc) d_Sh_isOfBytes_9) ?_
    refine S.br (c := (σ.1 c 3) = 0) (t := 15) (e := 19) (fun Q kt kf => g_if_ne d_Sh_isOfBytes_12 rfl kf kt) (fun h2 => ?_) (fun h2 => ?_)
    · refine S.of1 (pc2 := 16) (fun Q => g_iconst (v := (1 : Int32)) d_Sh_isOfBytes_15 (by decide)) ?_
      refine S.of1 (pc2 := 20) (fun Q => g_goto d_Sh_isOfBytes_16 rfl) ?_
      exact S.ret (fun Q hq => g_zret rfl rfl d_Sh_isOfBytes_20 hq)
    · refine S.of1 (pc2 := 20) (fun Q => g_iconst (v := (0 : Int32)) d_Sh_isOfBytes_19 (by decide)) ?_
      exact S.ret (fun Q hq => g_zret rfl rfl d_Sh_isOfBytes_20 hq)
  · refine S.of1 (pc2 := 20) (fun Q => g_iconst (v := (0 : Int32)) d_Sh_isOfBytes_19 (by decide)) ?_
    exact S.ret (fun Q hq => g_zret rfl rfl d_Sh_isOfBytes_20 hq)
def f_T_citizens_L57 : Nat → Int32 → Nat → Int32 → Int32 → gS → Option (Int32 × gS)
  | 0, _, _, _, _, _ => none
  | n + 1, v3, q4, v5, v6, σ =>
  if v3 ≤ v5 then some (v5, σ) else (f_Sh_has q4 v6 (3 : Int32) σ).bind fun q10 => if q10 = 0 then some (v5, σ) else (f_Isl_welcomeThree q4 v6 σ).bind fun q12 => if q12.1 < 0 then some (v5, q12.2) else (fun v3 q4 v5 v6 σ => f_T_citizens_L57 n v3 q4 v5 v6 σ) v3 q4 (v5 + (1 : Int32)) (v6 + (3 : Int32)) q12.2
theorem s_T_citizens_L57 (d : Nat) (hd : 4 ≤ d) : ∀ (n : Nat) (v3 : Int32) (q4 : Nat) (hq4 : gcls q4 = some 8) (v5 : Int32) (v6 : Int32) (σ : gS), S wI m_T_citizens d 57 [some (.ref 0), none, none, some (.int v3), some (.ref q4), some (.int v5), some (.int v6)] [] σ (f_T_citizens_L57 n v3 q4 v5 v6 σ) := by
  intro n
  induction n with
  | zero =>
    intros
    unfold f_T_citizens_L57
    exact S.no
  | succ n ih =>
    intro v3 q4 hq4 v5 v6 σ
    unfold f_T_citizens_L57
    refine S.of1 (pc2 := 59) (fun Q => g_iload d_T_citizens_57 rfl) ?_
    refine S.of1 (pc2 := 60) (fun Q => g_iload_n d_T_citizens_59 rfl) ?_
    refine S.br (c := v3 ≤ v5) (t := 97) (e := 63) (fun Q kt kf => g_icmp_ge d_T_citizens_60 rfl kt kf) (fun h9 => ?_) (fun h9 => ?_)
    · refine S.of1 (pc2 := 99) (fun Q => g_iload d_T_citizens_97 rfl) ?_
      exact S.ret (fun Q hq => g_iret rfl d_T_citizens_99 hq)
    · refine S.of1 (pc2 := 65) (fun Q => g_aload d_T_citizens_63 rfl) ?_
      refine S.of1 (pc2 := 67) (fun Q => g_iload d_T_citizens_65 rfl) ?_
      refine S.of1 (pc2 := 68) (fun Q => g_iconst (v := (3 : Int32)) d_T_citizens_67 (by decide)) ?_
      refine S.call_rI (pc3 := 71) rfl (c_Sh_has (d - 1) (by omega) q4 hq4 v6 (3 : Int32) σ) (fun Q => g_callV (M2 := m_Sh_has) (vs := [.int v6, .int (3 : Int32)]) (st := []) lv_RX10_88 hq4 rfl rfl (Nat.le_of_ble_eq_true rfl) (by omega) (Nat.le_of_ble_eq_true rfl) rfl d_T_citizens_68) (fun q10 => ?_)
      refine S.br (c := q10 = 0) (t := 97) (e := 74) (fun Q kt kf => g_if_eq d_T_citizens_71 rfl kt kf) (fun h11 => ?_) (fun h11 => ?_)
      · refine S.of1 (pc2 := 99) (fun Q => g_iload d_T_citizens_97 rfl) ?_
        exact S.ret (fun Q hq => g_iret rfl d_T_citizens_99 hq)
      · refine S.of1 (pc2 := 75) (fun Q => g_aload_n d_T_citizens_74 rfl) ?_
        refine S.of1 (pc2 := 78) (fun Q => g_getr fl_RX10_10 gc_0_0 d_T_citizens_75) ?_
        refine S.of1 (pc2 := 80) (fun Q => g_aload d_T_citizens_78 rfl) ?_
        refine S.of1 (pc2 := 82) (fun Q => g_iload d_T_citizens_80 rfl) ?_
        refine S.call_wI (pc3 := 85) rfl (c_Isl_welcomeThree (d - 1) (by omega) q4 hq4 v6 σ) (fun Q => g_callV (M2 := m_Isl_welcomeThree) (vs := [.ref q4, .int v6]) (st := []) lv_RX10_91 gk_1 rfl rfl (Nat.le_of_ble_eq_true rfl) (by omega) (Nat.le_of_ble_eq_true rfl) rfl d_T_citizens_82) (fun q12 => ?_)
        refine S.br (c := q12.1 < 0) (t := 97) (e := 88) (fun Q kt kf => g_if_lt d_T_citizens_85 rfl kt kf) (fun h13 => ?_) (fun h13 => ?_)
        · refine S.of1 (pc2 := 99) (fun Q => g_iload d_T_citizens_97 rfl) ?_
          exact S.ret (fun Q hq => g_iret rfl d_T_citizens_99 hq)
        · refine S.of1 (pc2 := 91) (L2 := [some (.ref 0), none, none, some (.int v3), some (.ref q4), some (.int (v5 + (1 : Int32))), some (.int v6)]) (fun Q => g_iinc d_T_citizens_88 rfl (congrArg (fun z => v5 + z) (by decide)) (Nat.le_of_ble_eq_true rfl) rfl) ?_
          refine S.of1 (pc2 := 94) (L2 := [some (.ref 0), none, none, some (.int v3), some (.ref q4), some (.int (v5 + (1 : Int32))), some (.int (v6 + (3 : Int32)))]) (fun Q => g_iinc d_T_citizens_91 rfl (congrArg (fun z => v6 + z) (by decide)) (Nat.le_of_ble_eq_true rfl) rfl) ?_
          refine S.of1 (pc2 := 57) (fun Q => g_goto d_T_citizens_94 rfl) ?_
          exact S.wk (L2 := [some (.ref 0), none, none, some (.int v3), some (.ref q4), some (.int (v5 + (1 : Int32))), some (.int (v6 + (3 : Int32)))]) (And.intro rfl (And.intro rfl (And.intro rfl (And.intro rfl (And.intro rfl trivial))))) (ih v3 q4 hq4 (v5 + (1 : Int32)) (v6 + (3 : Int32)) q12.2)
def f_T_citizens (v1 : Int32) (v2 : Int32) (v3 : Int32) (σ : gS) : Option (Int32 × gS) :=
  (f_T_within v1 (6 : Int32)).bind fun q1 => if q1 = 0 then some ((-1 : Int32), σ) else if v3 < (1 : Int32) then some ((-1 : Int32), σ) else if v3 ≤ (10 : Int32) then if gix v1 6 then if (σ.1 (gshc v1) 1) = 0 then some ((0 : Int32), σ) else (f_Sh_isOfBytes (gshc v1) σ).bind fun q7 => if q7 = 0 then some ((-12 : Int32), σ) else f_T_citizens_L57 gfu v3 (gshc v1) (0 : Int32) v2 σ else none else some ((-1 : Int32), σ)
theorem c_T_citizens (d : Nat) (hd : 4 ≤ d) (v1 : Int32) (v2 : Int32) (v3 : Int32) (σ : gS) : C wI d m_T_citizens [.ref 0, .int v1, .int v2, .int v3] σ (f_T_citizens v1 v2 v3 σ) := by
  unfold f_T_citizens
  refine C.of (by decide +kernel) (Nat.le_of_ble_eq_true rfl) (L := [some (.ref 0), some (.int v1), some (.int v2), some (.int v3), none, none, none]) rfl ?_
  refine S.of1 (pc2 := 1) (fun Q => g_iload_n d_T_citizens_0 rfl) ?_
  refine S.of1 (pc2 := 3) (fun Q => g_bipush (v := (6 : Int32)) d_T_citizens_1 (by decide)) ?_
  refine S.call_rI (pc3 := 6) rfl (c_T_within (d - 1) (by omega) v1 (6 : Int32) σ) (fun Q => g_callS (M2 := m_T_within) (vs := [.int v1, .int (6 : Int32)]) (st := []) ls_RX10_72 rfl (Nat.le_of_ble_eq_true rfl) (by omega) (Nat.le_of_ble_eq_true rfl) rfl d_T_citizens_3) (fun q1 => ?_)
  refine S.br (c := q1 = 0) (t := 20) (e := 9) (fun Q kt kf => g_if_eq d_T_citizens_6 rfl kt kf) (fun h2 => ?_) (fun h2 => ?_)
  · refine S.of1 (pc2 := 21) (fun Q => g_iconst (v := (-1 : Int32)) d_T_citizens_20 (by decide)) ?_
    exact S.ret (fun Q hq => g_iret rfl d_T_citizens_21 hq)
  · refine S.of1 (pc2 := 10) (fun Q => g_iload_n d_T_citizens_9 rfl) ?_
    refine S.of1 (pc2 := 11) (fun Q => g_iconst (v := (1 : Int32)) d_T_citizens_10 (by decide)) ?_
    refine S.br (c := v3 < (1 : Int32)) (t := 20) (e := 14) (fun Q kt kf => g_icmp_lt d_T_citizens_11 rfl kt kf) (fun h3 => ?_) (fun h3 => ?_)
    · refine S.of1 (pc2 := 21) (fun Q => g_iconst (v := (-1 : Int32)) d_T_citizens_20 (by decide)) ?_
      exact S.ret (fun Q hq => g_iret rfl d_T_citizens_21 hq)
    · refine S.of1 (pc2 := 15) (fun Q => g_iload_n d_T_citizens_14 rfl) ?_
      refine S.of1 (pc2 := 17) (fun Q => g_bipush (v := (10 : Int32)) d_T_citizens_15 (by decide)) ?_
      refine S.br (c := v3 ≤ (10 : Int32)) (t := 22) (e := 20) (fun Q kt kf => g_icmp_le d_T_citizens_17 rfl kt kf) (fun h4 => ?_) (fun h4 => ?_)
      · refine S.of1 (pc2 := 23) (fun Q => g_aload_n d_T_citizens_22 rfl) ?_
        refine S.of1 (pc2 := 26) (fun Q => g_getr fl_RX10_67 gc_0_8 d_T_citizens_23) ?_
        refine S.of1 (pc2 := 27) (fun Q => g_iload_n d_T_citizens_26 rfl) ?_
        refine S.chk (fun h5 => ?_)
        refine S.of1 (pc2 := 28) (fun Q => g_aald gra_46 (gix_in h5) (gsh_get h5) d_T_citizens_27) ?_
        refine S.of1 (pc2 := 30) (L2 := [some (.ref 0), some (.int v1), some (.int v2), some (.int v3), some (.ref (gshc v1)), none, none]) (fun Q => g_astore d_T_citizens_28 (Nat.le_of_ble_eq_true rfl) rfl) ?_
        refine S.of1 (pc2 := 32) (fun Q => g_aload d_T_citizens_30 rfl) ?_
        refine S.of1 (pc2 := 35) (fun Q => g_geti fl_RX10_80 (gq_8_1 (gsh_cls h5)) d_T_citizens_32) ?_
        refine S.br (c := (σ.1 (gshc v1) 1) = 0) (t := 38) (e := 40) (fun Q kt kf => g_if_ne d_T_citizens_35 rfl kf kt) (fun h6 => ?_) (fun h6 => ?_)
        · refine S.of1 (pc2 := 39) (fun Q => g_iconst (v := (0 : Int32)) d_T_citizens_38 (by decide)) ?_
          exact S.ret (fun Q hq => g_iret rfl d_T_citizens_39 hq)
        · refine S.of1 (pc2 := 42) (fun Q => g_aload d_T_citizens_40 rfl) ?_
          refine S.call_rI (pc3 := 45) rfl (c_Sh_isOfBytes (d - 1) (by omega) (gshc v1) (gsh_cls h5) σ) (fun Q => g_callV (M2 := m_Sh_isOfBytes) (vs := []) (st := []) lv_RX10_84 (gsh_cls h5) rfl rfl (Nat.le_of_ble_eq_true rfl) (by omega) (Nat.le_of_ble_eq_true rfl) rfl d_T_citizens_42) (fun q7 => ?_)
          refine S.br (c := q7 = 0) (t := 48) (e := 51) (fun Q kt kf => g_if_ne d_T_citizens_45 rfl kf kt) (fun h8 => ?_) (fun h8 => ?_)
          · refine S.of1 (pc2 := 50) (fun Q => g_bipush (v := (-12 : Int32)) d_T_citizens_48 (by decide)) ?_
            exact S.ret (fun Q hq => g_iret rfl d_T_citizens_50 hq)
          · refine S.of1 (pc2 := 52) (fun Q => g_iconst (v := (0 : Int32)) d_T_citizens_51 (by decide)) ?_
            refine S.of1 (pc2 := 54) (L2 := [some (.ref 0), some (.int v1), some (.int v2), some (.int v3), some (.ref (gshc v1)), some (.int (0 : Int32)), none]) (fun Q => g_istore d_T_citizens_52 (Nat.le_of_ble_eq_true rfl) rfl) ?_
            refine S.of1 (pc2 := 55) (fun Q => g_iload_n d_T_citizens_54 rfl) ?_
            refine S.of1 (pc2 := 57) (L2 := [some (.ref 0), some (.int v1), some (.int v2), some (.int v3), some (.ref (gshc v1)), some (.int (0 : Int32)), some (.int v2)]) (fun Q => g_istore d_T_citizens_55 (Nat.le_of_ble_eq_true rfl) rfl) ?_
            exact S.wk (L2 := [some (.ref 0), none, none, some (.int v3), some (.ref (gshc v1)), some (.int (0 : Int32)), some (.int v2)]) (And.intro rfl (And.intro rfl (And.intro rfl (And.intro rfl (And.intro rfl trivial))))) (s_T_citizens_L57 d hd gfu v3 (gshc v1) (gsh_cls h5) (0 : Int32) v2 σ)
      · refine S.of1 (pc2 := 21) (fun Q => g_iconst (v := (-1 : Int32)) d_T_citizens_20 (by decide)) ?_
        exact S.ret (fun Q hq => g_iret rfl d_T_citizens_21 hq)
def f_Ch_dropOldest (σ : gS) : Option gS :=
  gup (gpi σ 31 4 (39 : Int32)) fun s1 => if gcpy (1 : Int32) (0 : Int32) (s1.1 31 4) 40 40 then gup (gsi s1 32 (va_cpy (s1.1 32) (s1.1 32) (1 : Int32).toNatClampNeg (0 : Int32).toNatClampNeg (s1.1 31 4).toNatClampNeg)) fun s3 => if gcpy (1 : Int32) (0 : Int32) (s3.1 31 4) 40 40 then gup (gsi s3 33 (va_cpy (s3.1 33) (s3.1 33) (1 : Int32).toNatClampNeg (0 : Int32).toNatClampNeg (s3.1 31 4).toNatClampNeg)) fun s5 => if gcpy (1 : Int32) (0 : Int32) (s5.1 31 4) 40 40 then gup (gsi s5 34 (va_cpy (s5.1 34) (s5.1 34) (1 : Int32).toNatClampNeg (0 : Int32).toNatClampNeg (s5.1 31 4).toNatClampNeg)) fun s7 => if gcpy (1 : Int32) (0 : Int32) (s7.1 31 4) 40 40 then gup (gsi s7 35 (va_cpy (s7.1 35) (s7.1 35) (1 : Int32).toNatClampNeg (0 : Int32).toNatClampNeg (s7.1 31 4).toNatClampNeg)) fun s9 => some s9 else none else none else none else none
theorem c_Ch_dropOldest (d : Nat) (hd : 2 ≤ d) (σ : gS) : C wV d m_Ch_dropOldest [.ref 31] σ (f_Ch_dropOldest σ) := by
  unfold f_Ch_dropOldest
  refine C.of (by decide +kernel) (Nat.le_of_ble_eq_true rfl) (L := [some (.ref 31)]) rfl ?_
  refine S.of1 (pc2 := 1) (fun Q => g_aload_n d_Ch_dropOldest_0 rfl) ?_
  refine S.of1 (pc2 := 3) (fun Q => g_bipush (v := (39 : Int32)) d_Ch_dropOldest_1 (by decide)) ?_
  refine S.of1 (pc2 := 6) (fun Q => g_puti fl_RX1_22 gc_31_4 rfl rfl d_Ch_dropOldest_3) ?_
  refine S.gup (fun s1 => ?_)
  refine S.of1 (pc2 := 7) (fun Q => g_aload_n d_Ch_dropOldest_6 rfl) ?_
  refine S.of1 (pc2 := 10) (fun Q => g_getr fl_RX1_9 gc_31_0 d_Ch_dropOldest_7) ?_
  refine S.of1 (pc2 := 11) (fun Q => g_iconst (v := (1 : Int32)) d_Ch_dropOldest_10 (by decide)) ?_
  refine S.of1 (pc2 := 12) (fun Q => g_aload_n d_Ch_dropOldest_11 rfl) ?_
  refine S.of1 (pc2 := 15) (fun Q => g_getr fl_RX1_9 gc_31_0 d_Ch_dropOldest_12) ?_
  refine S.of1 (pc2 := 16) (fun Q => g_iconst (v := (0 : Int32)) d_Ch_dropOldest_15 (by decide)) ?_
  refine S.of1 (pc2 := 17) (fun Q => g_aload_n d_Ch_dropOldest_16 rfl) ?_
  refine S.of1 (pc2 := 20) (fun Q => g_geti fl_RX1_22 gc_31_4 d_Ch_dropOldest_17) ?_
  refine S.chk (fun h2 => ?_)
  refine S.of1 (pc2 := 23) (fun Q => g_copyi w_523 gMcp_ok ga_32 ga_32 (gcpy1 h2) (gcpy2 h2) (gcpy3 h2) (gcpy4 h2) (gcpy5 h2) (by omega) (Nat.le_of_ble_eq_true rfl) d_Ch_dropOldest_20) ?_
  refine S.gup (fun s3 => ?_)
  refine S.of1 (pc2 := 24) (fun Q => g_aload_n d_Ch_dropOldest_23 rfl) ?_
  refine S.of1 (pc2 := 27) (fun Q => g_getr fl_RX1_13 gc_31_1 d_Ch_dropOldest_24) ?_
  refine S.of1 (pc2 := 28) (fun Q => g_iconst (v := (1 : Int32)) d_Ch_dropOldest_27 (by decide)) ?_
  refine S.of1 (pc2 := 29) (fun Q => g_aload_n d_Ch_dropOldest_28 rfl) ?_
  refine S.of1 (pc2 := 32) (fun Q => g_getr fl_RX1_13 gc_31_1 d_Ch_dropOldest_29) ?_
  refine S.of1 (pc2 := 33) (fun Q => g_iconst (v := (0 : Int32)) d_Ch_dropOldest_32 (by decide)) ?_
  refine S.of1 (pc2 := 34) (fun Q => g_aload_n d_Ch_dropOldest_33 rfl) ?_
  refine S.of1 (pc2 := 37) (fun Q => g_geti fl_RX1_22 gc_31_4 d_Ch_dropOldest_34) ?_
  refine S.chk (fun h4 => ?_)
  refine S.of1 (pc2 := 40) (fun Q => g_copyi w_523 gMcp_ok ga_33 ga_33 (gcpy1 h4) (gcpy2 h4) (gcpy3 h4) (gcpy4 h4) (gcpy5 h4) (by omega) (Nat.le_of_ble_eq_true rfl) d_Ch_dropOldest_37) ?_
  refine S.gup (fun s5 => ?_)
  refine S.of1 (pc2 := 41) (fun Q => g_aload_n d_Ch_dropOldest_40 rfl) ?_
  refine S.of1 (pc2 := 44) (fun Q => g_getr fl_RX1_16 gc_31_2 d_Ch_dropOldest_41) ?_
  refine S.of1 (pc2 := 45) (fun Q => g_iconst (v := (1 : Int32)) d_Ch_dropOldest_44 (by decide)) ?_
  refine S.of1 (pc2 := 46) (fun Q => g_aload_n d_Ch_dropOldest_45 rfl) ?_
  refine S.of1 (pc2 := 49) (fun Q => g_getr fl_RX1_16 gc_31_2 d_Ch_dropOldest_46) ?_
  refine S.of1 (pc2 := 50) (fun Q => g_iconst (v := (0 : Int32)) d_Ch_dropOldest_49 (by decide)) ?_
  refine S.of1 (pc2 := 51) (fun Q => g_aload_n d_Ch_dropOldest_50 rfl) ?_
  refine S.of1 (pc2 := 54) (fun Q => g_geti fl_RX1_22 gc_31_4 d_Ch_dropOldest_51) ?_
  refine S.chk (fun h6 => ?_)
  refine S.of1 (pc2 := 57) (fun Q => g_copyi w_523 gMcp_ok ga_34 ga_34 (gcpy1 h6) (gcpy2 h6) (gcpy3 h6) (gcpy4 h6) (gcpy5 h6) (by omega) (Nat.le_of_ble_eq_true rfl) d_Ch_dropOldest_54) ?_
  refine S.gup (fun s7 => ?_)
  refine S.of1 (pc2 := 58) (fun Q => g_aload_n d_Ch_dropOldest_57 rfl) ?_
  refine S.of1 (pc2 := 61) (fun Q => g_getr fl_RX1_19 gc_31_3 d_Ch_dropOldest_58) ?_
  refine S.of1 (pc2 := 62) (fun Q => g_iconst (v := (1 : Int32)) d_Ch_dropOldest_61 (by decide)) ?_
  refine S.of1 (pc2 := 63) (fun Q => g_aload_n d_Ch_dropOldest_62 rfl) ?_
  refine S.of1 (pc2 := 66) (fun Q => g_getr fl_RX1_19 gc_31_3 d_Ch_dropOldest_63) ?_
  refine S.of1 (pc2 := 67) (fun Q => g_iconst (v := (0 : Int32)) d_Ch_dropOldest_66 (by decide)) ?_
  refine S.of1 (pc2 := 68) (fun Q => g_aload_n d_Ch_dropOldest_67 rfl) ?_
  refine S.of1 (pc2 := 71) (fun Q => g_geti fl_RX1_22 gc_31_4 d_Ch_dropOldest_68) ?_
  refine S.chk (fun h8 => ?_)
  refine S.of1 (pc2 := 74) (fun Q => g_copyi w_523 gMcp_ok ga_35 ga_35 (gcpy1 h8) (gcpy2 h8) (gcpy3 h8) (gcpy4 h8) (gcpy5 h8) (by omega) (Nat.le_of_ble_eq_true rfl) d_Ch_dropOldest_71) ?_
  refine S.gup (fun s9 => ?_)
  exact S.ret (fun Q hq => g_vret rfl d_Ch_dropOldest_74 hq)
def f_Ch_add_j13 (v1 : Int32) (v2 : Int32) (v3 : Int32) (v4 : Int32) (σ : gS) : Option gS :=
  if gix (σ.1 31 4) 40 then gup (gpi σ 32 (σ.1 31 4).toNatClampNeg v1) fun s3 => if gix (s3.1 31 4) 40 then gup (gpi s3 33 (s3.1 31 4).toNatClampNeg v2) fun s5 => if gix (s5.1 31 4) 40 then gup (gpi s5 34 (s5.1 31 4).toNatClampNeg v3) fun s7 => if gix (s7.1 31 4) 40 then gup (gpi s7 35 (s7.1 31 4).toNatClampNeg v4) fun s9 => gup (gpi s9 31 4 ((s9.1 31 4) + (1 : Int32))) fun s10 => gup (gpi s10 31 5 (s10.1 31 4)) fun s11 => some s11 else none else none else none else none
theorem s_Ch_add_j13 (d : Nat) (hd : 3 ≤ d) (v1 : Int32) (v2 : Int32) (v3 : Int32) (v4 : Int32) (σ : gS) : S wV m_Ch_add d 13 [some (.ref 31), some (.int v1), some (.int v2), some (.int v3), some (.int v4)] [] σ (f_Ch_add_j13 v1 v2 v3 v4 σ) := by
  unfold f_Ch_add_j13
  refine S.of1 (pc2 := 14) (fun Q => g_aload_n d_Ch_add_13 rfl) ?_
  refine S.of1 (pc2 := 17) (fun Q => g_getr fl_RX1_9 gc_31_0 d_Ch_add_14) ?_
  refine S.of1 (pc2 := 18) (fun Q => g_aload_n d_Ch_add_17 rfl) ?_
  refine S.of1 (pc2 := 21) (fun Q => g_geti fl_RX1_22 gc_31_4 d_Ch_add_18) ?_
  refine S.of1 (pc2 := 22) (fun Q => g_iload_n d_Ch_add_21 rfl) ?_
  refine S.chk (fun h2 => ?_)
  refine S.of1 (pc2 := 23) (fun Q => g_iast ga_32 (gix_in h2) d_Ch_add_22) ?_
  refine S.gup (fun s3 => ?_)
  refine S.of1 (pc2 := 24) (fun Q => g_aload_n d_Ch_add_23 rfl) ?_
  refine S.of1 (pc2 := 27) (fun Q => g_getr fl_RX1_13 gc_31_1 d_Ch_add_24) ?_
  refine S.of1 (pc2 := 28) (fun Q => g_aload_n d_Ch_add_27 rfl) ?_
  refine S.of1 (pc2 := 31) (fun Q => g_geti fl_RX1_22 gc_31_4 d_Ch_add_28) ?_
  refine S.of1 (pc2 := 32) (fun Q => g_iload_n d_Ch_add_31 rfl) ?_
  refine S.chk (fun h4 => ?_)
  refine S.of1 (pc2 := 33) (fun Q => g_iast ga_33 (gix_in h4) d_Ch_add_32) ?_
  refine S.gup (fun s5 => ?_)
  refine S.of1 (pc2 := 34) (fun Q => g_aload_n d_Ch_add_33 rfl) ?_
  refine S.of1 (pc2 := 37) (fun Q => g_getr fl_RX1_16 gc_31_2 d_Ch_add_34) ?_
  refine S.of1 (pc2 := 38) (fun Q => g_aload_n d_Ch_add_37 rfl) ?_
  refine S.of1 (pc2 := 41) (fun Q => g_geti fl_RX1_22 gc_31_4 d_Ch_add_38) ?_
  refine S.of1 (pc2 := 42) (fun Q => g_iload_n d_Ch_add_41 rfl) ?_
  refine S.chk (fun h6 => ?_)
  refine S.of1 (pc2 := 43) (fun Q => g_iast ga_34 (gix_in h6) d_Ch_add_42) ?_
  refine S.gup (fun s7 => ?_)
  refine S.of1 (pc2 := 44) (fun Q => g_aload_n d_Ch_add_43 rfl) ?_
  refine S.of1 (pc2 := 47) (fun Q => g_getr fl_RX1_19 gc_31_3 d_Ch_add_44) ?_
  refine S.of1 (pc2 := 48) (fun Q => g_aload_n d_Ch_add_47 rfl) ?_
  refine S.of1 (pc2 := 51) (fun Q => g_geti fl_RX1_22 gc_31_4 d_Ch_add_48) ?_
  refine S.of1 (pc2 := 53) (fun Q => g_iload d_Ch_add_51 rfl) ?_
  refine S.chk (fun h8 => ?_)
  refine S.of1 (pc2 := 54) (fun Q => g_iast ga_35 (gix_in h8) d_Ch_add_53) ?_
  refine S.gup (fun s9 => ?_)
  refine S.of1 (pc2 := 55) (fun Q => g_aload_n d_Ch_add_54 rfl) ?_
  refine S.of1 (pc2 := 56) (fun Q => g_dup d_Ch_add_55 rfl) ?_
  refine S.of1 (pc2 := 59) (fun Q => g_geti fl_RX1_22 gc_31_4 d_Ch_add_56) ?_
  refine S.of1 (pc2 := 60) (fun Q => g_iconst (v := (1 : Int32)) d_Ch_add_59 (by decide)) ?_
  refine S.of1 (pc2 := 61) (fun Q => g_iadd d_Ch_add_60) ?_
  refine S.of1 (pc2 := 64) (fun Q => g_puti fl_RX1_22 gc_31_4 rfl rfl d_Ch_add_61) ?_
  refine S.gup (fun s10 => ?_)
  refine S.of1 (pc2 := 65) (fun Q => g_aload_n d_Ch_add_64 rfl) ?_
  refine S.of1 (pc2 := 66) (fun Q => g_aload_n d_Ch_add_65 rfl) ?_
  refine S.of1 (pc2 := 69) (fun Q => g_geti fl_RX1_22 gc_31_4 d_Ch_add_66) ?_
  refine S.of1 (pc2 := 72) (fun Q => g_puti fl_RX1_29 gc_31_5 rfl rfl d_Ch_add_69) ?_
  refine S.gup (fun s11 => ?_)
  exact S.ret (fun Q hq => g_vret rfl d_Ch_add_72 hq)
def f_Ch_add (v1 : Int32) (v2 : Int32) (v3 : Int32) (v4 : Int32) (σ : gS) : Option gS :=
  if (σ.1 31 4) < (40 : Int32) then f_Ch_add_j13 v1 v2 v3 v4 σ else (f_Ch_dropOldest σ).bind fun s12 => f_Ch_add_j13 v1 v2 v3 v4 s12
theorem c_Ch_add (d : Nat) (hd : 3 ≤ d) (v1 : Int32) (v2 : Int32) (v3 : Int32) (v4 : Int32) (σ : gS) : C wV d m_Ch_add [.ref 31, .int v1, .int v2, .int v3, .int v4] σ (f_Ch_add v1 v2 v3 v4 σ) := by
  unfold f_Ch_add
  refine C.of (by decide +kernel) (Nat.le_of_ble_eq_true rfl) (L := [some (.ref 31), some (.int v1), some (.int v2), some (.int v3), some (.int v4)]) rfl ?_
  refine S.of1 (pc2 := 1) (fun Q => g_aload_n d_Ch_add_0 rfl) ?_
  refine S.of1 (pc2 := 4) (fun Q => g_geti fl_RX1_22 gc_31_4 d_Ch_add_1) ?_
  refine S.of1 (pc2 := 6) (fun Q => g_bipush (v := (40 : Int32)) d_Ch_add_4 (by decide)) ?_
  refine S.br (c := (σ.1 31 4) < (40 : Int32)) (t := 13) (e := 9) (fun Q kt kf => g_icmp_lt d_Ch_add_6 rfl kt kf) (fun h1 => ?_) (fun h1 => ?_)
  · exact S.wk (L2 := [some (.ref 31), some (.int v1), some (.int v2), some (.int v3), some (.int v4)]) (And.intro rfl (And.intro rfl (And.intro rfl (And.intro rfl (And.intro rfl trivial))))) (s_Ch_add_j13 d hd v1 v2 v3 v4 σ)
  · refine S.of1 (pc2 := 10) (fun Q => g_aload_n d_Ch_add_9 rfl) ?_
    refine S.call_wV (pc3 := 13) rfl (c_Ch_dropOldest (d - 1) (by omega) σ) (fun Q => g_callV (M2 := m_Ch_dropOldest) (vs := []) (st := []) lv_RX1_26 gk_31 rfl rfl (Nat.le_of_ble_eq_true rfl) (by omega) (Nat.le_of_ble_eq_true rfl) rfl d_Ch_add_10) (fun s12 => ?_)
    exact S.wk (L2 := [some (.ref 31), some (.int v1), some (.int v2), some (.int v3), some (.int v4)]) (And.intro rfl (And.intro rfl (And.intro rfl (And.intro rfl (And.intro rfl trivial))))) (s_Ch_add_j13 d hd v1 v2 v3 v4 s12)
def f_Isl_knows (v1 : Int32) (v2 : Int32) (σ : gS) : Option Int32 :=
  (f_T_within v2 (7 : Int32)).bind fun q1 => if q1 = 0 then some (0 : Int32) else if (4 : Int32) ≤ v2 then if v1 = 0 then some (1 : Int32) else some (0 : Int32) else (f_T_within v1 (σ.1 1 6)).bind fun q5 => if gzb q5 then some q5 else none
theorem c_Isl_knows (d : Nat) (hd : 2 ≤ d) (v1 : Int32) (v2 : Int32) (σ : gS) : C (rI σ) d m_Isl_knows [.ref 1, .int v1, .int v2] σ (f_Isl_knows v1 v2 σ) := by
  unfold f_Isl_knows
  refine C.of (by decide +kernel) (Nat.le_of_ble_eq_true rfl) (L := [some (.ref 1), some (.int v1), some (.int v2)]) rfl ?_
  refine S.of1 (pc2 := 1) (fun Q => g_iload_n d_Isl_knows_0 rfl) ?_
  refine S.of1 (pc2 := 4) (fun Q => g_gets q_MOST (List.mem_of_getElem? (i := 1) rfl) w_493 d_Isl_knows_1) ?_
  refine S.of1 (pc2 := 5) (fun Q => g_tlen (v := (7 : Int32)) q_MOST (List.mem_of_getElem? (i := 1) rfl) (by decide) d_Isl_knows_4) ?_
  refine S.call_rI (pc3 := 8) rfl (c_T_within (d - 1) (by omega) v2 (7 : Int32) σ) (fun Q => g_callSN (M2 := m_T_within) (vs := [.int v2, .int (7 : Int32)]) (st := []) ln_RX3_55 rfl (Nat.le_of_ble_eq_true rfl) (by omega) (Nat.le_of_ble_eq_true rfl) rfl d_Isl_knows_5) (fun q1 => ?_)
  refine S.br (c := q1 = 0) (t := 11) (e := 13) (fun Q kt kf => g_if_ne d_Isl_knows_8 rfl kf kt) (fun h2 => ?_) (fun h2 => ?_)
  · refine S.of1 (pc2 := 12) (fun Q => g_iconst (v := (0 : Int32)) d_Isl_knows_11 (by decide)) ?_
    exact S.ret (fun Q hq => g_zret rfl rfl d_Isl_knows_12 hq)
  · refine S.of1 (pc2 := 14) (fun Q => g_iload_n d_Isl_knows_13 rfl) ?_
    refine S.of1 (pc2 := 15) (fun Q => g_iconst (v := (4 : Int32)) d_Isl_knows_14 (by decide)) ?_
    refine S.br (c := (4 : Int32) ≤ v2) (t := 29) (e := 18) (fun Q kt kf => g_icmp_ge d_Isl_knows_15 rfl kt kf) (fun h3 => ?_) (fun h3 => ?_)
    · refine S.of1 (pc2 := 30) (fun Q => g_iload_n d_Isl_knows_29 rfl) ?_
      refine S.br (c := v1 = 0) (t := 33) (e := 37) (fun Q kt kf => g_if_ne d_Isl_knows_30 rfl kf kt) (fun h4 => ?_) (fun h4 => ?_)
      · refine S.of1 (pc2 := 34) (fun Q => g_iconst (v := (1 : Int32)) d_Isl_knows_33 (by decide)) ?_
        refine S.of1 (pc2 := 38) (fun Q => g_goto d_Isl_knows_34 rfl) ?_
        exact S.ret (fun Q hq => g_zret rfl rfl d_Isl_knows_38 hq)
      · refine S.of1 (pc2 := 38) (fun Q => g_iconst (v := (0 : Int32)) d_Isl_knows_37 (by decide)) ?_
        exact S.ret (fun Q hq => g_zret rfl rfl d_Isl_knows_38 hq)
    · refine S.of1 (pc2 := 19) (fun Q => g_iload_n d_Isl_knows_18 rfl) ?_
      refine S.of1 (pc2 := 20) (fun Q => g_aload_n d_Isl_knows_19 rfl) ?_
      refine S.of1 (pc2 := 23) (fun Q => g_geti fl_RX3_34 gc_1_6 d_Isl_knows_20) ?_
      refine S.call_rI (pc3 := 26) rfl (c_T_within (d - 1) (by omega) v1 (σ.1 1 6) σ) (fun Q => g_callSN (M2 := m_T_within) (vs := [.int v1, .int (σ.1 1 6)]) (st := []) ln_RX3_55 rfl (Nat.le_of_ble_eq_true rfl) (by omega) (Nat.le_of_ble_eq_true rfl) rfl d_Isl_knows_23) (fun q5 => ?_)
      refine S.of1 (pc2 := 38) (fun Q => g_goto d_Isl_knows_26 rfl) ?_
      refine S.chk (fun h6 => ?_)
      exact S.ret (fun Q hq => g_zret rfl (gzb_n h6) d_Isl_knows_38 hq)
def f_Isl_read (v1 : Int32) (v2 : Int32) (σ : gS) : Option Int32 :=
  (f_Isl_knows v1 v2 σ).bind fun q1 => if q1 = 0 then some (-2000000000 : Int32) else if v2 = (0 : Int32) then if gix v1 10 then some (σ.1 2 v1.toNatClampNeg) else none else if v2 = (1 : Int32) then if gix v1 10 then some (σ.1 3 v1.toNatClampNeg) else none else if v2 = (2 : Int32) then if gix v1 10 then some (σ.1 4 v1.toNatClampNeg) else none else if v2 = (3 : Int32) then if gix v1 10 then some (σ.1 5 v1.toNatClampNeg) else none else if v2 = (4 : Int32) then some (σ.1 1 7) else if v2 = (5 : Int32) then some (σ.1 1 8) else some (σ.1 1 9)
theorem c_Isl_read (d : Nat) (hd : 3 ≤ d) (v1 : Int32) (v2 : Int32) (σ : gS) : C (rI σ) d m_Isl_read [.ref 1, .int v1, .int v2] σ (f_Isl_read v1 v2 σ) := by
  unfold f_Isl_read
  refine C.of (by decide +kernel) (Nat.le_of_ble_eq_true rfl) (L := [some (.ref 1), some (.int v1), some (.int v2)]) rfl ?_
  refine S.of1 (pc2 := 1) (fun Q => g_aload_n d_Isl_read_0 rfl) ?_
  refine S.of1 (pc2 := 2) (fun Q => g_iload_n d_Isl_read_1 rfl) ?_
  refine S.of1 (pc2 := 3) (fun Q => g_iload_n d_Isl_read_2 rfl) ?_
  refine S.call_rI (pc3 := 6) rfl (c_Isl_knows (d - 1) (by omega) v1 v2 σ) (fun Q => g_callV (M2 := m_Isl_knows) (vs := [.int v1, .int v2]) (st := []) lv_RX3_61 gk_1 rfl rfl (Nat.le_of_ble_eq_true rfl) (by omega) (Nat.le_of_ble_eq_true rfl) rfl d_Isl_read_3) (fun q1 => ?_)
  refine S.br (c := q1 = 0) (t := 9) (e := 12) (fun Q kt kf => g_if_ne d_Isl_read_6 rfl kf kt) (fun h2 => ?_) (fun h2 => ?_)
  · refine S.of1 (pc2 := 11) (fun Q => g_ldc (v := (-2000000000 : Int32)) d_Isl_read_9 w_514) ?_
    exact S.ret (fun Q hq => g_iret rfl d_Isl_read_11 hq)
  · refine S.of1 (pc2 := 13) (fun Q => g_iload_n d_Isl_read_12 rfl) ?_
    refine S.cs (c := v2 = (0 : Int32)) (fun h3 => ?_) (fun h3 => ?_)
    · refine S.of1 (pc2 := 52) (fun Q => g_tableIn (off := 39) d_Isl_read_13 (by rw [h3]; decide) (by rw [h3]; decide) (by rw [h3]; rfl) rfl) ?_
      refine S.of1 (pc2 := 53) (fun Q => g_aload_n d_Isl_read_52 rfl) ?_
      refine S.of1 (pc2 := 56) (fun Q => g_getr fl_RX3_9 gc_1_0 d_Isl_read_53) ?_
      refine S.of1 (pc2 := 57) (fun Q => g_iload_n d_Isl_read_56 rfl) ?_
      refine S.chk (fun h4 => ?_)
      refine S.of1 (pc2 := 58) (fun Q => g_iald ga_2 (gix_in h4) d_Isl_read_57) ?_
      exact S.ret (fun Q hq => g_iret rfl d_Isl_read_58 hq)
    · refine S.cs (c := v2 = (1 : Int32)) (fun h5 => ?_) (fun h5 => ?_)
      · refine S.of1 (pc2 := 59) (fun Q => g_tableIn (off := 46) d_Isl_read_13 (by rw [h5]; decide) (by rw [h5]; decide) (by rw [h5]; rfl) rfl) ?_
        refine S.of1 (pc2 := 60) (fun Q => g_aload_n d_Isl_read_59 rfl) ?_
        refine S.of1 (pc2 := 63) (fun Q => g_getr fl_RX3_15 gc_1_1 d_Isl_read_60) ?_
        refine S.of1 (pc2 := 64) (fun Q => g_iload_n d_Isl_read_63 rfl) ?_
        refine S.chk (fun h6 => ?_)
        refine S.of1 (pc2 := 65) (fun Q => g_iald ga_3 (gix_in h6) d_Isl_read_64) ?_
        exact S.ret (fun Q hq => g_iret rfl d_Isl_read_65 hq)
      · refine S.cs (c := v2 = (2 : Int32)) (fun h7 => ?_) (fun h7 => ?_)
        · refine S.of1 (pc2 := 66) (fun Q => g_tableIn (off := 53) d_Isl_read_13 (by rw [h7]; decide) (by rw [h7]; decide) (by rw [h7]; rfl) rfl) ?_
          refine S.of1 (pc2 := 67) (fun Q => g_aload_n d_Isl_read_66 rfl) ?_
          refine S.of1 (pc2 := 70) (fun Q => g_getr fl_RX3_18 gc_1_2 d_Isl_read_67) ?_
          refine S.of1 (pc2 := 71) (fun Q => g_iload_n d_Isl_read_70 rfl) ?_
          refine S.chk (fun h8 => ?_)
          refine S.of1 (pc2 := 72) (fun Q => g_iald ga_4 (gix_in h8) d_Isl_read_71) ?_
          exact S.ret (fun Q hq => g_iret rfl d_Isl_read_72 hq)
        · refine S.cs (c := v2 = (3 : Int32)) (fun h9 => ?_) (fun h9 => ?_)
          · refine S.of1 (pc2 := 73) (fun Q => g_tableIn (off := 60) d_Isl_read_13 (by rw [h9]; decide) (by rw [h9]; decide) (by rw [h9]; rfl) rfl) ?_
            refine S.of1 (pc2 := 74) (fun Q => g_aload_n d_Isl_read_73 rfl) ?_
            refine S.of1 (pc2 := 77) (fun Q => g_getr fl_RX3_21 gc_1_3 d_Isl_read_74) ?_
            refine S.of1 (pc2 := 78) (fun Q => g_iload_n d_Isl_read_77 rfl) ?_
            refine S.chk (fun h10 => ?_)
            refine S.of1 (pc2 := 79) (fun Q => g_iald ga_5 (gix_in h10) d_Isl_read_78) ?_
            exact S.ret (fun Q hq => g_iret rfl d_Isl_read_79 hq)
          · refine S.cs (c := v2 = (4 : Int32)) (fun h11 => ?_) (fun h11 => ?_)
            · refine S.of1 (pc2 := 80) (fun Q => g_tableIn (off := 67) d_Isl_read_13 (by rw [h11]; decide) (by rw [h11]; decide) (by rw [h11]; rfl) rfl) ?_
              refine S.of1 (pc2 := 81) (fun Q => g_aload_n d_Isl_read_80 rfl) ?_
              refine S.of1 (pc2 := 84) (fun Q => g_geti fl_RX3_65 gc_1_7 d_Isl_read_81) ?_
              exact S.ret (fun Q hq => g_iret rfl d_Isl_read_84 hq)
            · refine S.cs (c := v2 = (5 : Int32)) (fun h12 => ?_) (fun h12 => ?_)
              · refine S.of1 (pc2 := 85) (fun Q => g_tableIn (off := 72) d_Isl_read_13 (by rw [h12]; decide) (by rw [h12]; decide) (by rw [h12]; rfl) rfl) ?_
                refine S.of1 (pc2 := 86) (fun Q => g_aload_n d_Isl_read_85 rfl) ?_
                refine S.of1 (pc2 := 89) (fun Q => g_geti fl_RX3_68 gc_1_8 d_Isl_read_86) ?_
                exact S.ret (fun Q hq => g_iret rfl d_Isl_read_89 hq)
              · refine S.of1 (pc2 := 90) (fun Q => g_tableOut d_Isl_read_13 (by have a0 := lv_neT h3 (a := 0) (by decide); have a1 := lv_neT h5 (a := 1) (by decide); have a2 := lv_neT h7 (a := 2) (by decide); have a3 := lv_neT h9 (a := 3) (by decide); have a4 := lv_neT h11 (a := 4) (by decide); have a5 := lv_neT h12 (a := 5) (by decide); omega) rfl) ?_
                refine S.of1 (pc2 := 91) (fun Q => g_aload_n d_Isl_read_90 rfl) ?_
                refine S.of1 (pc2 := 94) (fun Q => g_geti fl_RX3_71 gc_1_9 d_Isl_read_91) ?_
                exact S.ret (fun Q hq => g_iret rfl d_Isl_read_94 hq)
def f_Isl_write (v1 : Int32) (v2 : Int32) (v3 : Int32) (σ : gS) : Option gS :=
  (f_Isl_knows v1 v2 σ).bind fun q1 => if q1 = 0 then some σ else (f_Isl_takes v2 v3 σ).bind fun q3 => if q3 = 0 then some σ else if v2 = (0 : Int32) then if gix v1 10 then gup (gpi σ 2 v1.toNatClampNeg v3) fun s7 => some s7 else none else if v2 = (1 : Int32) then if gix v1 10 then gup (gpi σ 3 v1.toNatClampNeg v3) fun s10 => some s10 else none else if v2 = (2 : Int32) then if gix v1 10 then gup (gpi σ 4 v1.toNatClampNeg v3) fun s13 => some s13 else none else if v2 = (3 : Int32) then if gix v1 10 then gup (gpi σ 5 v1.toNatClampNeg v3) fun s16 => some s16 else none else if v2 = (4 : Int32) then gup (gpi σ 1 7 v3) fun s18 => some s18 else if v2 = (5 : Int32) then gup (gpi σ 1 8 v3) fun s20 => some s20 else gup (gpi σ 1 9 v3) fun s21 => some s21
theorem c_Isl_write (d : Nat) (hd : 3 ≤ d) (v1 : Int32) (v2 : Int32) (v3 : Int32) (σ : gS) : C wV d m_Isl_write [.ref 1, .int v1, .int v2, .int v3] σ (f_Isl_write v1 v2 v3 σ) := by
  unfold f_Isl_write
  refine C.of (by decide +kernel) (Nat.le_of_ble_eq_true rfl) (L := [some (.ref 1), some (.int v1), some (.int v2), some (.int v3)]) rfl ?_
  refine S.of1 (pc2 := 1) (fun Q => g_aload_n d_Isl_write_0 rfl) ?_
  refine S.of1 (pc2 := 2) (fun Q => g_iload_n d_Isl_write_1 rfl) ?_
  refine S.of1 (pc2 := 3) (fun Q => g_iload_n d_Isl_write_2 rfl) ?_
  refine S.call_rI (pc3 := 6) rfl (c_Isl_knows (d - 1) (by omega) v1 v2 σ) (fun Q => g_callV (M2 := m_Isl_knows) (vs := [.int v1, .int v2]) (st := []) lv_RX3_61 gk_1 rfl rfl (Nat.le_of_ble_eq_true rfl) (by omega) (Nat.le_of_ble_eq_true rfl) rfl d_Isl_write_3) (fun q1 => ?_)
  refine S.br (c := q1 = 0) (t := 17) (e := 9) (fun Q kt kf => g_if_eq d_Isl_write_6 rfl kt kf) (fun h2 => ?_) (fun h2 => ?_)
  · exact S.ret (fun Q hq => g_vret rfl d_Isl_write_17 hq)
  · refine S.of1 (pc2 := 10) (fun Q => g_iload_n d_Isl_write_9 rfl) ?_
    refine S.of1 (pc2 := 11) (fun Q => g_iload_n d_Isl_write_10 rfl) ?_
    refine S.call_rI (pc3 := 14) rfl (c_Isl_takes (d - 1) (by omega) v2 v3 σ) (fun Q => g_callS (M2 := m_Isl_takes) (vs := [.int v2, .int v3]) (st := []) ls_RX3_44 rfl (Nat.le_of_ble_eq_true rfl) (by omega) (Nat.le_of_ble_eq_true rfl) rfl d_Isl_write_11) (fun q3 => ?_)
    refine S.br (c := q3 = 0) (t := 17) (e := 18) (fun Q kt kf => g_if_ne d_Isl_write_14 rfl kf kt) (fun h4 => ?_) (fun h4 => ?_)
    · exact S.ret (fun Q hq => g_vret rfl d_Isl_write_17 hq)
    · refine S.of1 (pc2 := 19) (fun Q => g_iload_n d_Isl_write_18 rfl) ?_
      refine S.cs (c := v2 = (0 : Int32)) (fun h5 => ?_) (fun h5 => ?_)
      · refine S.of1 (pc2 := 56) (fun Q => g_tableIn (off := 37) d_Isl_write_19 (by rw [h5]; decide) (by rw [h5]; decide) (by rw [h5]; rfl) rfl) ?_
        refine S.of1 (pc2 := 57) (fun Q => g_aload_n d_Isl_write_56 rfl) ?_
        refine S.of1 (pc2 := 60) (fun Q => g_getr fl_RX3_9 gc_1_0 d_Isl_write_57) ?_
        refine S.of1 (pc2 := 61) (fun Q => g_iload_n d_Isl_write_60 rfl) ?_
        refine S.of1 (pc2 := 62) (fun Q => g_iload_n d_Isl_write_61 rfl) ?_
        refine S.chk (fun h6 => ?_)
        refine S.of1 (pc2 := 63) (fun Q => g_iast ga_2 (gix_in h6) d_Isl_write_62) ?_
        refine S.gup (fun s7 => ?_)
        refine S.of1 (pc2 := 117) (fun Q => g_goto d_Isl_write_63 rfl) ?_
        exact S.ret (fun Q hq => g_vret rfl d_Isl_write_117 hq)
      · refine S.cs (c := v2 = (1 : Int32)) (fun h8 => ?_) (fun h8 => ?_)
        · refine S.of1 (pc2 := 66) (fun Q => g_tableIn (off := 47) d_Isl_write_19 (by rw [h8]; decide) (by rw [h8]; decide) (by rw [h8]; rfl) rfl) ?_
          refine S.of1 (pc2 := 67) (fun Q => g_aload_n d_Isl_write_66 rfl) ?_
          refine S.of1 (pc2 := 70) (fun Q => g_getr fl_RX3_15 gc_1_1 d_Isl_write_67) ?_
          refine S.of1 (pc2 := 71) (fun Q => g_iload_n d_Isl_write_70 rfl) ?_
          refine S.of1 (pc2 := 72) (fun Q => g_iload_n d_Isl_write_71 rfl) ?_
          refine S.chk (fun h9 => ?_)
          refine S.of1 (pc2 := 73) (fun Q => g_iast ga_3 (gix_in h9) d_Isl_write_72) ?_
          refine S.gup (fun s10 => ?_)
          refine S.of1 (pc2 := 117) (fun Q => g_goto d_Isl_write_73 rfl) ?_
          exact S.ret (fun Q hq => g_vret rfl d_Isl_write_117 hq)
        · refine S.cs (c := v2 = (2 : Int32)) (fun h11 => ?_) (fun h11 => ?_)
          · refine S.of1 (pc2 := 76) (fun Q => g_tableIn (off := 57) d_Isl_write_19 (by rw [h11]; decide) (by rw [h11]; decide) (by rw [h11]; rfl) rfl) ?_
            refine S.of1 (pc2 := 77) (fun Q => g_aload_n d_Isl_write_76 rfl) ?_
            refine S.of1 (pc2 := 80) (fun Q => g_getr fl_RX3_18 gc_1_2 d_Isl_write_77) ?_
            refine S.of1 (pc2 := 81) (fun Q => g_iload_n d_Isl_write_80 rfl) ?_
            refine S.of1 (pc2 := 82) (fun Q => g_iload_n d_Isl_write_81 rfl) ?_
            refine S.chk (fun h12 => ?_)
            refine S.of1 (pc2 := 83) (fun Q => g_iast ga_4 (gix_in h12) d_Isl_write_82) ?_
            refine S.gup (fun s13 => ?_)
            refine S.of1 (pc2 := 117) (fun Q => g_goto d_Isl_write_83 rfl) ?_
            exact S.ret (fun Q hq => g_vret rfl d_Isl_write_117 hq)
          · refine S.cs (c := v2 = (3 : Int32)) (fun h14 => ?_) (fun h14 => ?_)
            · refine S.of1 (pc2 := 86) (fun Q => g_tableIn (off := 67) d_Isl_write_19 (by rw [h14]; decide) (by rw [h14]; decide) (by rw [h14]; rfl) rfl) ?_
              refine S.of1 (pc2 := 87) (fun Q => g_aload_n d_Isl_write_86 rfl) ?_
              refine S.of1 (pc2 := 90) (fun Q => g_getr fl_RX3_21 gc_1_3 d_Isl_write_87) ?_
              refine S.of1 (pc2 := 91) (fun Q => g_iload_n d_Isl_write_90 rfl) ?_
              refine S.of1 (pc2 := 92) (fun Q => g_iload_n d_Isl_write_91 rfl) ?_
              refine S.chk (fun h15 => ?_)
              refine S.of1 (pc2 := 93) (fun Q => g_iast ga_5 (gix_in h15) d_Isl_write_92) ?_
              refine S.gup (fun s16 => ?_)
              refine S.of1 (pc2 := 117) (fun Q => g_goto d_Isl_write_93 rfl) ?_
              exact S.ret (fun Q hq => g_vret rfl d_Isl_write_117 hq)
            · refine S.cs (c := v2 = (4 : Int32)) (fun h17 => ?_) (fun h17 => ?_)
              · refine S.of1 (pc2 := 96) (fun Q => g_tableIn (off := 77) d_Isl_write_19 (by rw [h17]; decide) (by rw [h17]; decide) (by rw [h17]; rfl) rfl) ?_
                refine S.of1 (pc2 := 97) (fun Q => g_aload_n d_Isl_write_96 rfl) ?_
                refine S.of1 (pc2 := 98) (fun Q => g_iload_n d_Isl_write_97 rfl) ?_
                refine S.of1 (pc2 := 101) (fun Q => g_puti fl_RX3_65 gc_1_7 rfl rfl d_Isl_write_98) ?_
                refine S.gup (fun s18 => ?_)
                refine S.of1 (pc2 := 117) (fun Q => g_goto d_Isl_write_101 rfl) ?_
                exact S.ret (fun Q hq => g_vret rfl d_Isl_write_117 hq)
              · refine S.cs (c := v2 = (5 : Int32)) (fun h19 => ?_) (fun h19 => ?_)
                · refine S.of1 (pc2 := 104) (fun Q => g_tableIn (off := 85) d_Isl_write_19 (by rw [h19]; decide) (by rw [h19]; decide) (by rw [h19]; rfl) rfl) ?_
                  refine S.of1 (pc2 := 105) (fun Q => g_aload_n d_Isl_write_104 rfl) ?_
                  refine S.of1 (pc2 := 106) (fun Q => g_iload_n d_Isl_write_105 rfl) ?_
                  refine S.of1 (pc2 := 109) (fun Q => g_puti fl_RX3_68 gc_1_8 rfl rfl d_Isl_write_106) ?_
                  refine S.gup (fun s20 => ?_)
                  refine S.of1 (pc2 := 117) (fun Q => g_goto d_Isl_write_109 rfl) ?_
                  exact S.ret (fun Q hq => g_vret rfl d_Isl_write_117 hq)
                · refine S.of1 (pc2 := 112) (fun Q => g_tableOut d_Isl_write_19 (by have a0 := lv_neT h5 (a := 0) (by decide); have a1 := lv_neT h8 (a := 1) (by decide); have a2 := lv_neT h11 (a := 2) (by decide); have a3 := lv_neT h14 (a := 3) (by decide); have a4 := lv_neT h17 (a := 4) (by decide); have a5 := lv_neT h19 (a := 5) (by decide); omega) rfl) ?_
                  refine S.of1 (pc2 := 113) (fun Q => g_aload_n d_Isl_write_112 rfl) ?_
                  refine S.of1 (pc2 := 114) (fun Q => g_iload_n d_Isl_write_113 rfl) ?_
                  refine S.of1 (pc2 := 117) (fun Q => g_puti fl_RX3_71 gc_1_9 rfl rfl d_Isl_write_114) ?_
                  refine S.gup (fun s21 => ?_)
                  exact S.ret (fun Q hq => g_vret rfl d_Isl_write_117 hq)
def f_T_mend (v1 : Int32) (v2 : Int32) (v3 : Int32) (σ : gS) : Option (Int32 × gS) :=
  (f_Isl_knows v1 v2 σ).bind fun q1 => if q1 = 0 then some ((-2000000000 : Int32), σ) else (f_Isl_takes v2 v3 σ).bind fun q3 => if q3 = 0 then some ((-2000000000 : Int32), σ) else (f_Isl_read v1 v2 σ).bind fun q5 => if q5 = v3 then some (q5, σ) else (f_Ch_add v1 v2 q5 v3 σ).bind fun s7 => (f_Isl_write v1 v2 v3 s7).bind fun s8 => some (q5, s8)
theorem c_T_mend (d : Nat) (hd : 4 ≤ d) (v1 : Int32) (v2 : Int32) (v3 : Int32) (σ : gS) : C wI d m_T_mend [.ref 0, .int v1, .int v2, .int v3] σ (f_T_mend v1 v2 v3 σ) := by
  unfold f_T_mend
  refine C.of (by decide +kernel) (Nat.le_of_ble_eq_true rfl) (L := [some (.ref 0), some (.int v1), some (.int v2), some (.int v3), none]) rfl ?_
  refine S.of1 (pc2 := 1) (fun Q => g_aload_n d_T_mend_0 rfl) ?_
  refine S.of1 (pc2 := 4) (fun Q => g_getr fl_RX10_10 gc_0_0 d_T_mend_1) ?_
  refine S.of1 (pc2 := 5) (fun Q => g_iload_n d_T_mend_4 rfl) ?_
  refine S.of1 (pc2 := 6) (fun Q => g_iload_n d_T_mend_5 rfl) ?_
  refine S.call_rI (pc3 := 9) rfl (c_Isl_knows (d - 1) (by omega) v1 v2 σ) (fun Q => g_callV (M2 := m_Isl_knows) (vs := [.int v1, .int v2]) (st := []) lv_RX10_95 gk_1 rfl rfl (Nat.le_of_ble_eq_true rfl) (by omega) (Nat.le_of_ble_eq_true rfl) rfl d_T_mend_6) (fun q1 => ?_)
  refine S.br (c := q1 = 0) (t := 20) (e := 12) (fun Q kt kf => g_if_eq d_T_mend_9 rfl kt kf) (fun h2 => ?_) (fun h2 => ?_)
  · refine S.of1 (pc2 := 22) (fun Q => g_ldc (v := (-2000000000 : Int32)) d_T_mend_20 w_508) ?_
    exact S.ret (fun Q hq => g_iret rfl d_T_mend_22 hq)
  · refine S.of1 (pc2 := 13) (fun Q => g_iload_n d_T_mend_12 rfl) ?_
    refine S.of1 (pc2 := 14) (fun Q => g_iload_n d_T_mend_13 rfl) ?_
    refine S.call_rI (pc3 := 17) rfl (c_Isl_takes (d - 1) (by omega) v2 v3 σ) (fun Q => g_callS (M2 := m_Isl_takes) (vs := [.int v2, .int v3]) (st := []) ls_RX10_98 rfl (Nat.le_of_ble_eq_true rfl) (by omega) (Nat.le_of_ble_eq_true rfl) rfl d_T_mend_14) (fun q3 => ?_)
    refine S.br (c := q3 = 0) (t := 20) (e := 23) (fun Q kt kf => g_if_ne d_T_mend_17 rfl kf kt) (fun h4 => ?_) (fun h4 => ?_)
    · refine S.of1 (pc2 := 22) (fun Q => g_ldc (v := (-2000000000 : Int32)) d_T_mend_20 w_508) ?_
      exact S.ret (fun Q hq => g_iret rfl d_T_mend_22 hq)
    · refine S.of1 (pc2 := 24) (fun Q => g_aload_n d_T_mend_23 rfl) ?_
      refine S.of1 (pc2 := 27) (fun Q => g_getr fl_RX10_10 gc_0_0 d_T_mend_24) ?_
      refine S.of1 (pc2 := 28) (fun Q => g_iload_n d_T_mend_27 rfl) ?_
      refine S.of1 (pc2 := 29) (fun Q => g_iload_n d_T_mend_28 rfl) ?_
      refine S.call_rI (pc3 := 32) rfl (c_Isl_read (d - 1) (by omega) v1 v2 σ) (fun Q => g_callV (M2 := m_Isl_read) (vs := [.int v1, .int v2]) (st := []) lv_RX10_102 gk_1 rfl rfl (Nat.le_of_ble_eq_true rfl) (by omega) (Nat.le_of_ble_eq_true rfl) rfl d_T_mend_29) (fun q5 => ?_)
      refine S.of1 (pc2 := 34) (L2 := [some (.ref 0), some (.int v1), some (.int v2), some (.int v3), some (.int q5)]) (fun Q => g_istore d_T_mend_32 (Nat.le_of_ble_eq_true rfl) rfl) ?_
      refine S.of1 (pc2 := 36) (fun Q => g_iload d_T_mend_34 rfl) ?_
      refine S.of1 (pc2 := 37) (fun Q => g_iload_n d_T_mend_36 rfl) ?_
      refine S.br (c := q5 = v3) (t := 62) (e := 40) (fun Q kt kf => g_icmp_eq d_T_mend_37 rfl kt kf) (fun h6 => ?_) (fun h6 => ?_)
      · refine S.of1 (pc2 := 64) (fun Q => g_iload d_T_mend_62 rfl) ?_
        exact S.ret (fun Q hq => g_iret rfl d_T_mend_64 hq)
      · refine S.of1 (pc2 := 41) (fun Q => g_aload_n d_T_mend_40 rfl) ?_
        refine S.of1 (pc2 := 44) (fun Q => g_getr fl_RX10_40 gc_0_4 d_T_mend_41) ?_
        refine S.of1 (pc2 := 45) (fun Q => g_iload_n d_T_mend_44 rfl) ?_
        refine S.of1 (pc2 := 46) (fun Q => g_iload_n d_T_mend_45 rfl) ?_
        refine S.of1 (pc2 := 48) (fun Q => g_iload d_T_mend_46 rfl) ?_
        refine S.of1 (pc2 := 49) (fun Q => g_iload_n d_T_mend_48 rfl) ?_
        refine S.call_wV (pc3 := 52) rfl (c_Ch_add (d - 1) (by omega) v1 v2 q5 v3 σ) (fun Q => g_callV (M2 := m_Ch_add) (vs := [.int v1, .int v2, .int q5, .int v3]) (st := []) lv_RX10_106 gk_31 rfl rfl (Nat.le_of_ble_eq_true rfl) (by omega) (Nat.le_of_ble_eq_true rfl) rfl d_T_mend_49) (fun s7 => ?_)
        refine S.of1 (pc2 := 53) (fun Q => g_aload_n d_T_mend_52 rfl) ?_
        refine S.of1 (pc2 := 56) (fun Q => g_getr fl_RX10_10 gc_0_0 d_T_mend_53) ?_
        refine S.of1 (pc2 := 57) (fun Q => g_iload_n d_T_mend_56 rfl) ?_
        refine S.of1 (pc2 := 58) (fun Q => g_iload_n d_T_mend_57 rfl) ?_
        refine S.of1 (pc2 := 59) (fun Q => g_iload_n d_T_mend_58 rfl) ?_
        refine S.call_wV (pc3 := 62) rfl (c_Isl_write (d - 1) (by omega) v1 v2 v3 s7) (fun Q => g_callV (M2 := m_Isl_write) (vs := [.int v1, .int v2, .int v3]) (st := []) lv_RX10_110 gk_1 rfl rfl (Nat.le_of_ble_eq_true rfl) (by omega) (Nat.le_of_ble_eq_true rfl) rfl d_T_mend_59) (fun s8 => ?_)
        refine S.of1 (pc2 := 64) (fun Q => g_iload d_T_mend_62 rfl) ?_
        exact S.ret (fun Q hq => g_iret rfl d_T_mend_64 hq)
def f_T_of (v1 : Int32) (v2 : Int32) (σ : gS) : Option Int32 :=
  (f_Isl_knows v1 v2 σ).bind fun q1 => if q1 = 0 then some (-2000000000 : Int32) else (f_Isl_read v1 v2 σ).bind fun q3 => some q3
theorem c_T_of (d : Nat) (hd : 4 ≤ d) (v1 : Int32) (v2 : Int32) (σ : gS) : C (rI σ) d m_T_of [.ref 0, .int v1, .int v2] σ (f_T_of v1 v2 σ) := by
  unfold f_T_of
  refine C.of (by decide +kernel) (Nat.le_of_ble_eq_true rfl) (L := [some (.ref 0), some (.int v1), some (.int v2)]) rfl ?_
  refine S.of1 (pc2 := 1) (fun Q => g_aload_n d_T_of_0 rfl) ?_
  refine S.of1 (pc2 := 4) (fun Q => g_getr fl_RX10_10 gc_0_0 d_T_of_1) ?_
  refine S.of1 (pc2 := 5) (fun Q => g_iload_n d_T_of_4 rfl) ?_
  refine S.of1 (pc2 := 6) (fun Q => g_iload_n d_T_of_5 rfl) ?_
  refine S.call_rI (pc3 := 9) rfl (c_Isl_knows (d - 1) (by omega) v1 v2 σ) (fun Q => g_callV (M2 := m_Isl_knows) (vs := [.int v1, .int v2]) (st := []) lv_RX10_95 gk_1 rfl rfl (Nat.le_of_ble_eq_true rfl) (by omega) (Nat.le_of_ble_eq_true rfl) rfl d_T_of_6) (fun q1 => ?_)
  refine S.br (c := q1 = 0) (t := 24) (e := 12) (fun Q kt kf => g_if_eq d_T_of_9 rfl kt kf) (fun h2 => ?_) (fun h2 => ?_)
  · refine S.of1 (pc2 := 26) (fun Q => g_ldc (v := (-2000000000 : Int32)) d_T_of_24 w_508) ?_
    exact S.ret (fun Q hq => g_iret rfl d_T_of_26 hq)
  · refine S.of1 (pc2 := 13) (fun Q => g_aload_n d_T_of_12 rfl) ?_
    refine S.of1 (pc2 := 16) (fun Q => g_getr fl_RX10_10 gc_0_0 d_T_of_13) ?_
    refine S.of1 (pc2 := 17) (fun Q => g_iload_n d_T_of_16 rfl) ?_
    refine S.of1 (pc2 := 18) (fun Q => g_iload_n d_T_of_17 rfl) ?_
    refine S.call_rI (pc3 := 21) rfl (c_Isl_read (d - 1) (by omega) v1 v2 σ) (fun Q => g_callV (M2 := m_Isl_read) (vs := [.int v1, .int v2]) (st := []) lv_RX10_102 gk_1 rfl rfl (Nat.le_of_ble_eq_true rfl) (by omega) (Nat.le_of_ble_eq_true rfl) rfl d_T_of_18) (fun q3 => ?_)
    refine S.of1 (pc2 := 26) (fun Q => g_goto d_T_of_21 rfl) ?_
    exact S.ret (fun Q hq => g_iret rfl d_T_of_26 hq)
def f_Pa_hear (v1 : Int32) (σ : gS) : Option (Int32 × gS) :=
  if (σ.1 27 3) < (120 : Int32) then if gix (σ.1 27 3) 120 then gup (gpi σ 28 (σ.1 27 3).toNatClampNeg v1) fun s3 => gup (gpi s3 27 3 ((s3.1 27 3) + (1 : Int32))) fun s4 => some ((s4.1 27 3), s4) else none else some ((-3 : Int32), σ)
theorem c_Pa_hear (d : Nat) (hd : 1 ≤ d) (v1 : Int32) (σ : gS) : C wI d m_Pa_hear [.ref 27, .int v1] σ (f_Pa_hear v1 σ) := by
  unfold f_Pa_hear
  refine C.of (by decide +kernel) (Nat.le_of_ble_eq_true rfl) (L := [some (.ref 27), some (.int v1)]) rfl ?_
  refine S.of1 (pc2 := 1) (fun Q => g_aload_n d_Pa_hear_0 rfl) ?_
  refine S.of1 (pc2 := 4) (fun Q => g_geti fl_RX6_23 gc_27_3 d_Pa_hear_1) ?_
  refine S.of1 (pc2 := 6) (fun Q => g_bipush (v := (120 : Int32)) d_Pa_hear_4 (by decide)) ?_
  refine S.br (c := (σ.1 27 3) < (120 : Int32)) (t := 12) (e := 9) (fun Q kt kf => g_icmp_lt d_Pa_hear_6 rfl kt kf) (fun h1 => ?_) (fun h1 => ?_)
  · refine S.of1 (pc2 := 13) (fun Q => g_aload_n d_Pa_hear_12 rfl) ?_
    refine S.of1 (pc2 := 16) (fun Q => g_getr fl_RX6_11 gc_27_0 d_Pa_hear_13) ?_
    refine S.of1 (pc2 := 17) (fun Q => g_aload_n d_Pa_hear_16 rfl) ?_
    refine S.of1 (pc2 := 20) (fun Q => g_geti fl_RX6_23 gc_27_3 d_Pa_hear_17) ?_
    refine S.of1 (pc2 := 21) (fun Q => g_iload_n d_Pa_hear_20 rfl) ?_
    refine S.chk (fun h2 => ?_)
    refine S.of1 (pc2 := 22) (fun Q => g_iast ga_28 (gix_in h2) d_Pa_hear_21) ?_
    refine S.gup (fun s3 => ?_)
    refine S.of1 (pc2 := 23) (fun Q => g_aload_n d_Pa_hear_22 rfl) ?_
    refine S.of1 (pc2 := 24) (fun Q => g_dup d_Pa_hear_23 rfl) ?_
    refine S.of1 (pc2 := 27) (fun Q => g_geti fl_RX6_23 gc_27_3 d_Pa_hear_24) ?_
    refine S.of1 (pc2 := 28) (fun Q => g_iconst (v := (1 : Int32)) d_Pa_hear_27 (by decide)) ?_
    refine S.of1 (pc2 := 29) (fun Q => g_iadd d_Pa_hear_28) ?_
    refine S.of1 (pc2 := 32) (fun Q => g_puti fl_RX6_23 gc_27_3 rfl rfl d_Pa_hear_29) ?_
    refine S.gup (fun s4 => ?_)
    refine S.of1 (pc2 := 33) (fun Q => g_aload_n d_Pa_hear_32 rfl) ?_
    refine S.of1 (pc2 := 36) (fun Q => g_geti fl_RX6_23 gc_27_3 d_Pa_hear_33) ?_
    exact S.ret (fun Q hq => g_iret rfl d_Pa_hear_36 hq)
  · refine S.of1 (pc2 := 11) (fun Q => g_bipush (v := (-3 : Int32)) d_Pa_hear_9 (by decide)) ?_
    exact S.ret (fun Q hq => g_iret rfl d_Pa_hear_11 hq)
def f_T_feed (v1 : Int32) (σ : gS) : Option (Int32 × gS) :=
  (f_T_within v1 (256 : Int32)).bind fun q1 => if q1 = 0 then some ((-1 : Int32), σ) else (f_Pa_hear v1 σ).bind fun q3 => some (q3.1, q3.2)
theorem c_T_feed (d : Nat) (hd : 2 ≤ d) (v1 : Int32) (σ : gS) : C wI d m_T_feed [.ref 0, .int v1] σ (f_T_feed v1 σ) := by
  unfold f_T_feed
  refine C.of (by decide +kernel) (Nat.le_of_ble_eq_true rfl) (L := [some (.ref 0), some (.int v1)]) rfl ?_
  refine S.of1 (pc2 := 1) (fun Q => g_iload_n d_T_feed_0 rfl) ?_
  refine S.of1 (pc2 := 4) (fun Q => g_sipush (v := (256 : Int32)) d_T_feed_1 (by decide)) ?_
  refine S.call_rI (pc3 := 7) rfl (c_T_within (d - 1) (by omega) v1 (256 : Int32) σ) (fun Q => g_callS (M2 := m_T_within) (vs := [.int v1, .int (256 : Int32)]) (st := []) ls_RX10_72 rfl (Nat.le_of_ble_eq_true rfl) (by omega) (Nat.le_of_ble_eq_true rfl) rfl d_T_feed_4) (fun q1 => ?_)
  refine S.br (c := q1 = 0) (t := 10) (e := 12) (fun Q kt kf => g_if_ne d_T_feed_7 rfl kf kt) (fun h2 => ?_) (fun h2 => ?_)
  · refine S.of1 (pc2 := 11) (fun Q => g_iconst (v := (-1 : Int32)) d_T_feed_10 (by decide)) ?_
    exact S.ret (fun Q hq => g_iret rfl d_T_feed_11 hq)
  · refine S.of1 (pc2 := 13) (fun Q => g_aload_n d_T_feed_12 rfl) ?_
    refine S.of1 (pc2 := 16) (fun Q => g_getr fl_RX10_33 gc_0_3 d_T_feed_13) ?_
    refine S.of1 (pc2 := 17) (fun Q => g_iload_n d_T_feed_16 rfl) ?_
    refine S.call_wI (pc3 := 20) rfl (c_Pa_hear (d - 1) (by omega) v1 σ) (fun Q => g_callV (M2 := m_Pa_hear) (vs := [.int v1]) (st := []) lv_RX10_114 gk_27 rfl rfl (Nat.le_of_ble_eq_true rfl) (by omega) (Nat.le_of_ble_eq_true rfl) rfl d_T_feed_17) (fun q3 => ?_)
    exact S.ret (fun Q hq => g_iret rfl d_T_feed_20 hq)
def f_Pa_next (σ : gS) : Option Int32 :=
  if (σ.1 27 3) ≤ (σ.1 27 5) then some (-1 : Int32) else (f_T_within (σ.1 27 5) (120 : Int32)).bind fun q2 => if q2 = 0 then some (-1 : Int32) else if gix (σ.1 27 5) 120 then some (σ.1 28 (σ.1 27 5).toNatClampNeg) else none
theorem c_Pa_next (d : Nat) (hd : 2 ≤ d) (σ : gS) : C (rI σ) d m_Pa_next [.ref 27] σ (f_Pa_next σ) := by
  unfold f_Pa_next
  refine C.of (by decide +kernel) (Nat.le_of_ble_eq_true rfl) (L := [some (.ref 27)]) rfl ?_
  refine S.of1 (pc2 := 1) (fun Q => g_aload_n d_Pa_next_0 rfl) ?_
  refine S.of1 (pc2 := 4) (fun Q => g_geti fl_RX6_30 gc_27_5 d_Pa_next_1) ?_
  refine S.of1 (pc2 := 5) (fun Q => g_aload_n d_Pa_next_4 rfl) ?_
  refine S.of1 (pc2 := 8) (fun Q => g_geti fl_RX6_23 gc_27_3 d_Pa_next_5) ?_
  refine S.br (c := (σ.1 27 3) ≤ (σ.1 27 5)) (t := 35) (e := 11) (fun Q kt kf => g_icmp_ge d_Pa_next_8 rfl kt kf) (fun h1 => ?_) (fun h1 => ?_)
  · refine S.of1 (pc2 := 36) (fun Q => g_iconst (v := (-1 : Int32)) d_Pa_next_35 (by decide)) ?_
    exact S.ret (fun Q hq => g_iret rfl d_Pa_next_36 hq)
  · refine S.of1 (pc2 := 12) (fun Q => g_aload_n d_Pa_next_11 rfl) ?_
    refine S.of1 (pc2 := 15) (fun Q => g_geti fl_RX6_30 gc_27_5 d_Pa_next_12) ?_
    refine S.of1 (pc2 := 17) (fun Q => g_bipush (v := (120 : Int32)) d_Pa_next_15 (by decide)) ?_
    refine S.call_rI (pc3 := 20) rfl (c_T_within (d - 1) (by omega) (σ.1 27 5) (120 : Int32) σ) (fun Q => g_callSN (M2 := m_T_within) (vs := [.int (σ.1 27 5), .int (120 : Int32)]) (st := []) ln_RX6_67 rfl (Nat.le_of_ble_eq_true rfl) (by omega) (Nat.le_of_ble_eq_true rfl) rfl d_Pa_next_17) (fun q2 => ?_)
    refine S.br (c := q2 = 0) (t := 35) (e := 23) (fun Q kt kf => g_if_eq d_Pa_next_20 rfl kt kf) (fun h3 => ?_) (fun h3 => ?_)
    · refine S.of1 (pc2 := 36) (fun Q => g_iconst (v := (-1 : Int32)) d_Pa_next_35 (by decide)) ?_
      exact S.ret (fun Q hq => g_iret rfl d_Pa_next_36 hq)
    · refine S.of1 (pc2 := 24) (fun Q => g_aload_n d_Pa_next_23 rfl) ?_
      refine S.of1 (pc2 := 27) (fun Q => g_getr fl_RX6_11 gc_27_0 d_Pa_next_24) ?_
      refine S.of1 (pc2 := 28) (fun Q => g_aload_n d_Pa_next_27 rfl) ?_
      refine S.of1 (pc2 := 31) (fun Q => g_geti fl_RX6_30 gc_27_5 d_Pa_next_28) ?_
      refine S.chk (fun h4 => ?_)
      refine S.of1 (pc2 := 32) (fun Q => g_iald ga_28 (gix_in h4) d_Pa_next_31) ?_
      refine S.of1 (pc2 := 36) (fun Q => g_goto d_Pa_next_32 rfl) ?_
      exact S.ret (fun Q hq => g_iret rfl d_Pa_next_36 hq)
def f_Pa_meets (v1 : Int32) (σ : gS) : Option (Int32 × gS) :=
  if (σ.1 27 6) = (-1 : Int32) then (f_Pa_next σ).bind fun q2 => if q2 = v1 then gup (gpi σ 27 5 ((σ.1 27 5) + (1 : Int32))) fun s4 => some ((1 : Int32), s4) else some ((0 : Int32), σ) else some ((0 : Int32), σ)
theorem c_Pa_meets (d : Nat) (hd : 3 ≤ d) (v1 : Int32) (σ : gS) : C wI d m_Pa_meets [.ref 27, .int v1] σ (f_Pa_meets v1 σ) := by
  unfold f_Pa_meets
  refine C.of (by decide +kernel) (Nat.le_of_ble_eq_true rfl) (L := [some (.ref 27), some (.int v1)]) rfl ?_
  refine S.of1 (pc2 := 1) (fun Q => g_aload_n d_Pa_meets_0 rfl) ?_
  refine S.of1 (pc2 := 4) (fun Q => g_geti fl_RX6_33 gc_27_6 d_Pa_meets_1) ?_
  refine S.of1 (pc2 := 5) (fun Q => g_iconst (v := (-1 : Int32)) d_Pa_meets_4 (by decide)) ?_
  refine S.br (c := (σ.1 27 6) = (-1 : Int32)) (t := 8) (e := 16) (fun Q kt kf => g_icmp_ne d_Pa_meets_5 rfl kf kt) (fun h1 => ?_) (fun h1 => ?_)
  · refine S.of1 (pc2 := 9) (fun Q => g_aload_n d_Pa_meets_8 rfl) ?_
    refine S.call_rI (pc3 := 12) rfl (c_Pa_next (d - 1) (by omega) σ) (fun Q => g_callV (M2 := m_Pa_next) (vs := []) (st := []) lv_RX6_75 gk_27 rfl rfl (Nat.le_of_ble_eq_true rfl) (by omega) (Nat.le_of_ble_eq_true rfl) rfl d_Pa_meets_9) (fun q2 => ?_)
    refine S.of1 (pc2 := 13) (fun Q => g_iload_n d_Pa_meets_12 rfl) ?_
    refine S.br (c := q2 = v1) (t := 18) (e := 16) (fun Q kt kf => g_icmp_eq d_Pa_meets_13 rfl kt kf) (fun h3 => ?_) (fun h3 => ?_)
    · refine S.of1 (pc2 := 19) (fun Q => g_aload_n d_Pa_meets_18 rfl) ?_
      refine S.of1 (pc2 := 20) (fun Q => g_dup d_Pa_meets_19 rfl) ?_
      refine S.of1 (pc2 := 23) (fun Q => g_geti fl_RX6_30 gc_27_5 d_Pa_meets_20) ?_
      refine S.of1 (pc2 := 24) (fun Q => g_iconst (v := (1 : Int32)) d_Pa_meets_23 (by decide)) ?_
      refine S.of1 (pc2 := 25) (fun Q => g_iadd d_Pa_meets_24) ?_
      refine S.of1 (pc2 := 28) (fun Q => g_puti fl_RX6_30 gc_27_5 rfl rfl d_Pa_meets_25) ?_
      refine S.gup (fun s4 => ?_)
      refine S.of1 (pc2 := 29) (fun Q => g_iconst (v := (1 : Int32)) d_Pa_meets_28 (by decide)) ?_
      exact S.ret (fun Q hq => g_zret rfl rfl d_Pa_meets_29 hq)
    · refine S.of1 (pc2 := 17) (fun Q => g_iconst (v := (0 : Int32)) d_Pa_meets_16 (by decide)) ?_
      exact S.ret (fun Q hq => g_zret rfl rfl d_Pa_meets_17 hq)
  · refine S.of1 (pc2 := 17) (fun Q => g_iconst (v := (0 : Int32)) d_Pa_meets_16 (by decide)) ?_
    exact S.ret (fun Q hq => g_zret rfl rfl d_Pa_meets_17 hq)
def f_Pa_emit (v1 : Int32) (v2 : Int32) (σ : gS) : Option gS :=
  if (128 : Int32) ≤ (σ.1 27 4) then some σ else if gix (σ.1 27 4) 128 then gup (gpi σ 29 (σ.1 27 4).toNatClampNeg v1) fun s3 => if gix (s3.1 27 4) 128 then gup (gpi s3 30 (s3.1 27 4).toNatClampNeg v2) fun s5 => gup (gpi s5 27 4 ((s5.1 27 4) + (1 : Int32))) fun s6 => some s6 else none else none
theorem c_Pa_emit (d : Nat) (hd : 1 ≤ d) (v1 : Int32) (v2 : Int32) (σ : gS) : C wV d m_Pa_emit [.ref 27, .int v1, .int v2] σ (f_Pa_emit v1 v2 σ) := by
  unfold f_Pa_emit
  refine C.of (by decide +kernel) (Nat.le_of_ble_eq_true rfl) (L := [some (.ref 27), some (.int v1), some (.int v2)]) rfl ?_
  refine S.of1 (pc2 := 1) (fun Q => g_aload_n d_Pa_emit_0 rfl) ?_
  refine S.of1 (pc2 := 4) (fun Q => g_geti fl_RX6_27 gc_27_4 d_Pa_emit_1) ?_
  refine S.of1 (pc2 := 7) (fun Q => g_sipush (v := (128 : Int32)) d_Pa_emit_4 (by decide)) ?_
  refine S.br (c := (128 : Int32) ≤ (σ.1 27 4)) (t := 40) (e := 10) (fun Q kt kf => g_icmp_ge d_Pa_emit_7 rfl kt kf) (fun h1 => ?_) (fun h1 => ?_)
  · exact S.ret (fun Q hq => g_vret rfl d_Pa_emit_40 hq)
  · refine S.of1 (pc2 := 11) (fun Q => g_aload_n d_Pa_emit_10 rfl) ?_
    refine S.of1 (pc2 := 14) (fun Q => g_getr fl_RX6_17 gc_27_1 d_Pa_emit_11) ?_
    refine S.of1 (pc2 := 15) (fun Q => g_aload_n d_Pa_emit_14 rfl) ?_
    refine S.of1 (pc2 := 18) (fun Q => g_geti fl_RX6_27 gc_27_4 d_Pa_emit_15) ?_
    refine S.of1 (pc2 := 19) (fun Q => g_iload_n d_Pa_emit_18 rfl) ?_
    refine S.chk (fun h2 => ?_)
    refine S.of1 (pc2 := 20) (fun Q => g_iast ga_29 (gix_in h2) d_Pa_emit_19) ?_
    refine S.gup (fun s3 => ?_)
    refine S.of1 (pc2 := 21) (fun Q => g_aload_n d_Pa_emit_20 rfl) ?_
    refine S.of1 (pc2 := 24) (fun Q => g_getr fl_RX6_20 gc_27_2 d_Pa_emit_21) ?_
    refine S.of1 (pc2 := 25) (fun Q => g_aload_n d_Pa_emit_24 rfl) ?_
    refine S.of1 (pc2 := 28) (fun Q => g_geti fl_RX6_27 gc_27_4 d_Pa_emit_25) ?_
    refine S.of1 (pc2 := 29) (fun Q => g_iload_n d_Pa_emit_28 rfl) ?_
    refine S.chk (fun h4 => ?_)
    refine S.of1 (pc2 := 30) (fun Q => g_iast ga_30 (gix_in h4) d_Pa_emit_29) ?_
    refine S.gup (fun s5 => ?_)
    refine S.of1 (pc2 := 31) (fun Q => g_aload_n d_Pa_emit_30 rfl) ?_
    refine S.of1 (pc2 := 32) (fun Q => g_dup d_Pa_emit_31 rfl) ?_
    refine S.of1 (pc2 := 35) (fun Q => g_geti fl_RX6_27 gc_27_4 d_Pa_emit_32) ?_
    refine S.of1 (pc2 := 36) (fun Q => g_iconst (v := (1 : Int32)) d_Pa_emit_35 (by decide)) ?_
    refine S.of1 (pc2 := 37) (fun Q => g_iadd d_Pa_emit_36) ?_
    refine S.of1 (pc2 := 40) (fun Q => g_puti fl_RX6_27 gc_27_4 rfl rfl d_Pa_emit_37) ?_
    refine S.gup (fun s6 => ?_)
    exact S.ret (fun Q hq => g_vret rfl d_Pa_emit_40 hq)
def f_Pa_rankOf (v0 : Int32) : Option Int32 :=
  if v0 = (37 : Int32) then some (4 : Int32) else if v0 = (38 : Int32) then some (1 : Int32) else if v0 = (42 : Int32) then some (4 : Int32) else if v0 = (43 : Int32) then some (3 : Int32) else if v0 = (45 : Int32) then some (3 : Int32) else if v0 = (47 : Int32) then some (4 : Int32) else if v0 = (60 : Int32) then some (2 : Int32) else if v0 = (61 : Int32) then some (2 : Int32) else if v0 = (62 : Int32) then some (2 : Int32) else if v0 = (124 : Int32) then some (0 : Int32) else some (-1 : Int32)
theorem c_Pa_rankOf (d : Nat) (hd : 1 ≤ d) (v0 : Int32) (σ : gS) : C (rI σ) d m_Pa_rankOf [.int v0] σ (f_Pa_rankOf v0) := by
  unfold f_Pa_rankOf
  refine C.of (by decide +kernel) (Nat.le_of_ble_eq_true rfl) (L := [some (.int v0)]) rfl ?_
  refine S.of1 (pc2 := 1) (fun Q => g_iload_n d_Pa_rankOf_0 rfl) ?_
  refine S.cs (c := v0 = (37 : Int32)) (fun h1 => ?_) (fun h1 => ?_)
  · refine S.of1 (pc2 := 100) (fun Q => g_lookup (off := 99) d_Pa_rankOf_1 (by decide) (by rw [h1]; decide) rfl) ?_
    refine S.of1 (pc2 := 101) (fun Q => g_iconst (v := (4 : Int32)) d_Pa_rankOf_100 (by decide)) ?_
    exact S.ret (fun Q hq => g_iret rfl d_Pa_rankOf_101 hq)
  · refine S.cs (c := v0 = (38 : Int32)) (fun h2 => ?_) (fun h2 => ?_)
    · refine S.of1 (pc2 := 94) (fun Q => g_lookup (off := 93) d_Pa_rankOf_1 (by decide) (by rw [h2]; decide) rfl) ?_
      refine S.of1 (pc2 := 95) (fun Q => g_iconst (v := (1 : Int32)) d_Pa_rankOf_94 (by decide)) ?_
      exact S.ret (fun Q hq => g_iret rfl d_Pa_rankOf_95 hq)
    · refine S.cs (c := v0 = (42 : Int32)) (fun h3 => ?_) (fun h3 => ?_)
      · refine S.of1 (pc2 := 100) (fun Q => g_lookup (off := 99) d_Pa_rankOf_1 (by decide) (by rw [h3]; decide) rfl) ?_
        refine S.of1 (pc2 := 101) (fun Q => g_iconst (v := (4 : Int32)) d_Pa_rankOf_100 (by decide)) ?_
        exact S.ret (fun Q hq => g_iret rfl d_Pa_rankOf_101 hq)
      · refine S.cs (c := v0 = (43 : Int32)) (fun h4 => ?_) (fun h4 => ?_)
        · refine S.of1 (pc2 := 98) (fun Q => g_lookup (off := 97) d_Pa_rankOf_1 (by decide) (by rw [h4]; decide) rfl) ?_
          refine S.of1 (pc2 := 99) (fun Q => g_iconst (v := (3 : Int32)) d_Pa_rankOf_98 (by decide)) ?_
          exact S.ret (fun Q hq => g_iret rfl d_Pa_rankOf_99 hq)
        · refine S.cs (c := v0 = (45 : Int32)) (fun h5 => ?_) (fun h5 => ?_)
          · refine S.of1 (pc2 := 98) (fun Q => g_lookup (off := 97) d_Pa_rankOf_1 (by decide) (by rw [h5]; decide) rfl) ?_
            refine S.of1 (pc2 := 99) (fun Q => g_iconst (v := (3 : Int32)) d_Pa_rankOf_98 (by decide)) ?_
            exact S.ret (fun Q hq => g_iret rfl d_Pa_rankOf_99 hq)
          · refine S.cs (c := v0 = (47 : Int32)) (fun h6 => ?_) (fun h6 => ?_)
            · refine S.of1 (pc2 := 100) (fun Q => g_lookup (off := 99) d_Pa_rankOf_1 (by decide) (by rw [h6]; decide) rfl) ?_
              refine S.of1 (pc2 := 101) (fun Q => g_iconst (v := (4 : Int32)) d_Pa_rankOf_100 (by decide)) ?_
              exact S.ret (fun Q hq => g_iret rfl d_Pa_rankOf_101 hq)
            · refine S.cs (c := v0 = (60 : Int32)) (fun h7 => ?_) (fun h7 => ?_)
              · refine S.of1 (pc2 := 96) (fun Q => g_lookup (off := 95) d_Pa_rankOf_1 (by decide) (by rw [h7]; decide) rfl) ?_
                refine S.of1 (pc2 := 97) (fun Q => g_iconst (v := (2 : Int32)) d_Pa_rankOf_96 (by decide)) ?_
                exact S.ret (fun Q hq => g_iret rfl d_Pa_rankOf_97 hq)
              · refine S.cs (c := v0 = (61 : Int32)) (fun h8 => ?_) (fun h8 => ?_)
                · refine S.of1 (pc2 := 96) (fun Q => g_lookup (off := 95) d_Pa_rankOf_1 (by decide) (by rw [h8]; decide) rfl) ?_
                  refine S.of1 (pc2 := 97) (fun Q => g_iconst (v := (2 : Int32)) d_Pa_rankOf_96 (by decide)) ?_
                  exact S.ret (fun Q hq => g_iret rfl d_Pa_rankOf_97 hq)
                · refine S.cs (c := v0 = (62 : Int32)) (fun h9 => ?_) (fun h9 => ?_)
                  · refine S.of1 (pc2 := 96) (fun Q => g_lookup (off := 95) d_Pa_rankOf_1 (by decide) (by rw [h9]; decide) rfl) ?_
                    refine S.of1 (pc2 := 97) (fun Q => g_iconst (v := (2 : Int32)) d_Pa_rankOf_96 (by decide)) ?_
                    exact S.ret (fun Q hq => g_iret rfl d_Pa_rankOf_97 hq)
                  · refine S.cs (c := v0 = (124 : Int32)) (fun h10 => ?_) (fun h10 => ?_)
                    · refine S.of1 (pc2 := 92) (fun Q => g_lookup (off := 91) d_Pa_rankOf_1 (by decide) (by rw [h10]; decide) rfl) ?_
                      refine S.of1 (pc2 := 93) (fun Q => g_iconst (v := (0 : Int32)) d_Pa_rankOf_92 (by decide)) ?_
                      exact S.ret (fun Q hq => g_iret rfl d_Pa_rankOf_93 hq)
                    · refine S.of1 (pc2 := 102) (fun Q => g_lookup (off := 101) d_Pa_rankOf_1 (by decide) (by show Op.lookupswitch.offset [(37, 99), (38, 93), (42, 99), (43, 97), (45, 97), (47, 99), (60, 95), (61, 95), (62, 95), (124, 91)] 101 v0.toInt = 101; rw [lv_osw h1 (by decide), lv_osw h2 (by decide), lv_osw h3 (by decide), lv_osw h4 (by decide), lv_osw h5 (by decide), lv_osw h6 (by decide), lv_osw h7 (by decide), lv_osw h8 (by decide), lv_osw h9 (by decide), lv_osw h10 (by decide)]; rfl) rfl) ?_
                      refine S.of1 (pc2 := 103) (fun Q => g_iconst (v := (-1 : Int32)) d_Pa_rankOf_102 (by decide)) ?_
                      exact S.ret (fun Q hq => g_iret rfl d_Pa_rankOf_103 hq)
def f_Pa_isDigit (v0 : Int32) : Option Int32 :=
  if v0 < (48 : Int32) then some (0 : Int32) else if (57 : Int32) < v0 then some (0 : Int32) else some (1 : Int32)
theorem c_Pa_isDigit (d : Nat) (hd : 1 ≤ d) (v0 : Int32) (σ : gS) : C (rI σ) d m_Pa_isDigit [.int v0] σ (f_Pa_isDigit v0) := by
  unfold f_Pa_isDigit
  refine C.of (by decide +kernel) (Nat.le_of_ble_eq_true rfl) (L := [some (.int v0)]) rfl ?_
  refine S.of1 (pc2 := 1) (fun Q => g_iload_n d_Pa_isDigit_0 rfl) ?_
  refine S.of1 (pc2 := 3) (fun Q => g_bipush (v := (48 : Int32)) d_Pa_isDigit_1 (by decide)) ?_
  refine S.br (c := v0 < (48 : Int32)) (t := 16) (e := 6) (fun Q kt kf => g_icmp_lt d_Pa_isDigit_3 rfl kt kf) (fun h1 => ?_) (fun h1 => ?_)
  · refine S.of1 (pc2 := 17) (fun Q => g_iconst (v := (0 : Int32)) d_Pa_isDigit_16 (by decide)) ?_
    exact S.ret (fun Q hq => g_zret rfl rfl d_Pa_isDigit_17 hq)
  · refine S.of1 (pc2 := 7) (fun Q => g_iload_n d_Pa_isDigit_6 rfl) ?_
    refine S.of1 (pc2 := 9) (fun Q => g_bipush (v := (57 : Int32)) d_Pa_isDigit_7 (by decide)) ?_
    refine S.br (c := (57 : Int32) < v0) (t := 16) (e := 12) (fun Q kt kf => g_icmp_gt d_Pa_isDigit_9 rfl kt kf) (fun h2 => ?_) (fun h2 => ?_)
    · refine S.of1 (pc2 := 17) (fun Q => g_iconst (v := (0 : Int32)) d_Pa_isDigit_16 (by decide)) ?_
      exact S.ret (fun Q hq => g_zret rfl rfl d_Pa_isDigit_17 hq)
    · refine S.of1 (pc2 := 13) (fun Q => g_iconst (v := (1 : Int32)) d_Pa_isDigit_12 (by decide)) ?_
      refine S.of1 (pc2 := 17) (fun Q => g_goto d_Pa_isDigit_13 rfl) ?_
      exact S.ret (fun Q hq => g_zret rfl rfl d_Pa_isDigit_17 hq)
def f_Pa_readNumber_j48 (v1 : Int32) (σ : gS) : Option gS :=
  (f_Pa_emit (1 : Int32) v1 σ).bind fun s2 => some s2
theorem s_Pa_readNumber_j48 (d : Nat) (hd : 3 ≤ d) (v1 : Int32) (σ : gS) : S wV m_Pa_readNumber d 48 [some (.ref 27), some (.int v1), none] [] σ (f_Pa_readNumber_j48 v1 σ) := by
  unfold f_Pa_readNumber_j48
  refine S.of1 (pc2 := 49) (fun Q => g_aload_n d_Pa_readNumber_48 rfl) ?_
  refine S.of1 (pc2 := 50) (fun Q => g_iconst (v := (1 : Int32)) d_Pa_readNumber_49 (by decide)) ?_
  refine S.of1 (pc2 := 51) (fun Q => g_iload_n d_Pa_readNumber_50 rfl) ?_
  refine S.call_wV (pc3 := 54) rfl (c_Pa_emit (d - 1) (by omega) (1 : Int32) v1 σ) (fun Q => g_callV (M2 := m_Pa_emit) (vs := [.int (1 : Int32), .int v1]) (st := []) lv_RX6_64 gk_27 rfl rfl (Nat.le_of_ble_eq_true rfl) (by omega) (Nat.le_of_ble_eq_true rfl) rfl d_Pa_readNumber_51) (fun s2 => ?_)
  exact S.ret (fun Q hq => g_vret rfl d_Pa_readNumber_54 hq)
def f_Pa_readNumber_L4 : Nat → Int32 → Int32 → gS → Option gS
  | 0, _, _, _ => none
  | n + 1, v1, v2, σ =>
  if (4 : Int32) ≤ v2 then f_Pa_readNumber_j48 v1 σ else (f_Pa_next σ).bind fun q3 => (f_Pa_isDigit q3).bind fun q4 => if q4 = 0 then f_Pa_readNumber_j48 v1 σ else (f_Pa_next σ).bind fun q6 => glt (((v1 * (10 : Int32)) + q6) - (48 : Int32)) fun x7 => gup (gpi σ 27 5 ((σ.1 27 5) + (1 : Int32))) fun s8 => (fun v1 v2 σ => f_Pa_readNumber_L4 n v1 v2 σ) x7 (v2 + (1 : Int32)) s8
theorem s_Pa_readNumber_L4 (d : Nat) (hd : 3 ≤ d) : ∀ (n : Nat) (v1 : Int32) (v2 : Int32) (σ : gS), S wV m_Pa_readNumber d 4 [some (.ref 27), some (.int v1), some (.int v2)] [] σ (f_Pa_readNumber_L4 n v1 v2 σ) := by
  intro n
  induction n with
  | zero =>
    intros
    unfold f_Pa_readNumber_L4
    exact S.no
  | succ n ih =>
    intro v1 v2 σ
    unfold f_Pa_readNumber_L4
    refine S.of1 (pc2 := 5) (fun Q => g_iload_n d_Pa_readNumber_4 rfl) ?_
    refine S.of1 (pc2 := 6) (fun Q => g_iconst (v := (4 : Int32)) d_Pa_readNumber_5 (by decide)) ?_
    refine S.br (c := (4 : Int32) ≤ v2) (t := 48) (e := 9) (fun Q kt kf => g_icmp_ge d_Pa_readNumber_6 rfl kt kf) (fun h1 => ?_) (fun h1 => ?_)
    · exact S.wk (L2 := [some (.ref 27), some (.int v1), none]) (And.intro rfl (And.intro rfl trivial)) (s_Pa_readNumber_j48 d hd v1 σ)
    · refine S.of1 (pc2 := 10) (fun Q => g_aload_n d_Pa_readNumber_9 rfl) ?_
      refine S.call_rI (pc3 := 13) rfl (c_Pa_next (d - 1) (by omega) σ) (fun Q => g_callV (M2 := m_Pa_next) (vs := []) (st := []) lv_RX6_75 gk_27 rfl rfl (Nat.le_of_ble_eq_true rfl) (by omega) (Nat.le_of_ble_eq_true rfl) rfl d_Pa_readNumber_10) (fun q3 => ?_)
      refine S.call_rI (pc3 := 16) rfl (c_Pa_isDigit (d - 1) (by omega) q3 σ) (fun Q => g_callS (M2 := m_Pa_isDigit) (vs := [.int q3]) (st := []) ls_RX6_90 rfl (Nat.le_of_ble_eq_true rfl) (by omega) (Nat.le_of_ble_eq_true rfl) rfl d_Pa_readNumber_13) (fun q4 => ?_)
      refine S.br (c := q4 = 0) (t := 48) (e := 19) (fun Q kt kf => g_if_eq d_Pa_readNumber_16 rfl kt kf) (fun h5 => ?_) (fun h5 => ?_)
      · exact S.wk (L2 := [some (.ref 27), some (.int v1), none]) (And.intro rfl (And.intro rfl trivial)) (s_Pa_readNumber_j48 d hd v1 σ)
      · refine S.of1 (pc2 := 20) (fun Q => g_iload_n d_Pa_readNumber_19 rfl) ?_
        refine S.of1 (pc2 := 22) (fun Q => g_bipush (v := (10 : Int32)) d_Pa_readNumber_20 (by decide)) ?_
        refine S.of1 (pc2 := 23) (fun Q => g_imul d_Pa_readNumber_22) ?_
        refine S.of1 (pc2 := 24) (fun Q => g_aload_n d_Pa_readNumber_23 rfl) ?_
        refine S.call_rI (pc3 := 27) rfl (c_Pa_next (d - 1) (by omega) σ) (fun Q => g_callV (M2 := m_Pa_next) (vs := []) (st := [.int (v1 * (10 : Int32))]) lv_RX6_75 gk_27 rfl rfl (Nat.le_of_ble_eq_true rfl) (by omega) (Nat.le_of_ble_eq_true rfl) rfl d_Pa_readNumber_24) (fun q6 => ?_)
        refine S.of1 (pc2 := 28) (fun Q => g_iadd d_Pa_readNumber_27) ?_
        refine S.of1 (pc2 := 30) (fun Q => g_bipush (v := (48 : Int32)) d_Pa_readNumber_28 (by decide)) ?_
        refine S.of1 (pc2 := 31) (fun Q => g_isub d_Pa_readNumber_30) ?_
        refine S.of1 (pc2 := 32) (L2 := [some (.ref 27), some (.int (((v1 * (10 : Int32)) + q6) - (48 : Int32))), some (.int v2)]) (fun Q => g_istore_n d_Pa_readNumber_31 (Nat.le_of_ble_eq_true rfl) rfl) ?_
        refine S.glt (x := (((v1 * (10 : Int32)) + q6) - (48 : Int32))) (Lf := fun y => [some (.ref 27), some (.int y), some (.int v2)]) (fun x7 => ?_)
        refine S.of1 (pc2 := 33) (fun Q => g_aload_n d_Pa_readNumber_32 rfl) ?_
        refine S.of1 (pc2 := 34) (fun Q => g_dup d_Pa_readNumber_33 rfl) ?_
        refine S.of1 (pc2 := 37) (fun Q => g_geti fl_RX6_30 gc_27_5 d_Pa_readNumber_34) ?_
        refine S.of1 (pc2 := 38) (fun Q => g_iconst (v := (1 : Int32)) d_Pa_readNumber_37 (by decide)) ?_
        refine S.of1 (pc2 := 39) (fun Q => g_iadd d_Pa_readNumber_38) ?_
        refine S.of1 (pc2 := 42) (fun Q => g_puti fl_RX6_30 gc_27_5 rfl rfl d_Pa_readNumber_39) ?_
        refine S.gup (fun s8 => ?_)
        refine S.of1 (pc2 := 45) (L2 := [some (.ref 27), some (.int x7), some (.int (v2 + (1 : Int32)))]) (fun Q => g_iinc d_Pa_readNumber_42 rfl (congrArg (fun z => v2 + z) (by decide)) (Nat.le_of_ble_eq_true rfl) rfl) ?_
        refine S.of1 (pc2 := 4) (fun Q => g_goto d_Pa_readNumber_45 rfl) ?_
        exact S.wk (L2 := [some (.ref 27), some (.int x7), some (.int (v2 + (1 : Int32)))]) (And.intro rfl (And.intro rfl (And.intro rfl trivial))) (ih x7 (v2 + (1 : Int32)) s8)
def f_Pa_readNumber (σ : gS) : Option gS :=
  f_Pa_readNumber_L4 gfu (0 : Int32) (0 : Int32) σ
theorem c_Pa_readNumber (d : Nat) (hd : 3 ≤ d) (σ : gS) : C wV d m_Pa_readNumber [.ref 27] σ (f_Pa_readNumber σ) := by
  unfold f_Pa_readNumber
  refine C.of (by decide +kernel) (Nat.le_of_ble_eq_true rfl) (L := [some (.ref 27), none, none]) rfl ?_
  refine S.of1 (pc2 := 1) (fun Q => g_iconst (v := (0 : Int32)) d_Pa_readNumber_0 (by decide)) ?_
  refine S.of1 (pc2 := 2) (L2 := [some (.ref 27), some (.int (0 : Int32)), none]) (fun Q => g_istore_n d_Pa_readNumber_1 (Nat.le_of_ble_eq_true rfl) rfl) ?_
  refine S.of1 (pc2 := 3) (fun Q => g_iconst (v := (0 : Int32)) d_Pa_readNumber_2 (by decide)) ?_
  refine S.of1 (pc2 := 4) (L2 := [some (.ref 27), some (.int (0 : Int32)), some (.int (0 : Int32))]) (fun Q => g_istore_n d_Pa_readNumber_3 (Nat.le_of_ble_eq_true rfl) rfl) ?_
  exact S.wk (L2 := [some (.ref 27), some (.int (0 : Int32)), some (.int (0 : Int32))]) (And.intro rfl (And.intro rfl (And.intro rfl trivial))) (s_Pa_readNumber_L4 d hd gfu (0 : Int32) (0 : Int32) σ)
def f_Pa_refuse (σ : gS) : Option gS :=
  if (σ.1 27 6) = (-1 : Int32) then gup (gpi σ 27 6 (σ.1 27 5)) fun s2 => some s2 else some σ
theorem c_Pa_refuse (d : Nat) (hd : 1 ≤ d) (σ : gS) : C wV d m_Pa_refuse [.ref 27] σ (f_Pa_refuse σ) := by
  unfold f_Pa_refuse
  refine C.of (by decide +kernel) (Nat.le_of_ble_eq_true rfl) (L := [some (.ref 27)]) rfl ?_
  refine S.of1 (pc2 := 1) (fun Q => g_aload_n d_Pa_refuse_0 rfl) ?_
  refine S.of1 (pc2 := 4) (fun Q => g_geti fl_RX6_33 gc_27_6 d_Pa_refuse_1) ?_
  refine S.of1 (pc2 := 5) (fun Q => g_iconst (v := (-1 : Int32)) d_Pa_refuse_4 (by decide)) ?_
  refine S.br (c := (σ.1 27 6) = (-1 : Int32)) (t := 8) (e := 16) (fun Q kt kf => g_icmp_ne d_Pa_refuse_5 rfl kf kt) (fun h1 => ?_) (fun h1 => ?_)
  · refine S.of1 (pc2 := 9) (fun Q => g_aload_n d_Pa_refuse_8 rfl) ?_
    refine S.of1 (pc2 := 10) (fun Q => g_aload_n d_Pa_refuse_9 rfl) ?_
    refine S.of1 (pc2 := 13) (fun Q => g_geti fl_RX6_30 gc_27_5 d_Pa_refuse_10) ?_
    refine S.of1 (pc2 := 16) (fun Q => g_puti fl_RX6_33 gc_27_6 rfl rfl d_Pa_refuse_13) ?_
    refine S.gup (fun s2 => ?_)
    exact S.ret (fun Q hq => g_vret rfl d_Pa_refuse_16 hq)
  · exact S.ret (fun Q hq => g_vret rfl d_Pa_refuse_16 hq)
def f_JS_isLatin1 (σ : gS) : Option Int32 :=
  if (1 : Int32) = 0 then some (0 : Int32) else if (0 : Int32) = 0 then some (1 : Int32) else some (0 : Int32)
theorem c_JS_isLatin1 (d : Nat) (hd : 1 ≤ d) (σ : gS) : C (rI σ) d m_JS_isLatin1 [.ref 1004] σ (f_JS_isLatin1 σ) := by
  unfold f_JS_isLatin1
  refine C.of (by decide +kernel) (Nat.le_of_ble_eq_true rfl) (L := [some (.ref 1004)]) rfl ?_
  refine S.of1 (pc2 := 3) (fun Q => g_gZ w_580 d_JS_isLatin1_0) ?_
  refine S.br (c := (1 : Int32) = 0) (t := 17) (e := 6) (fun Q kt kf => g_if_eq d_JS_isLatin1_3 rfl kt kf) (fun h1 => ?_) (fun h1 => ?_)
  · refine S.of1 (pc2 := 18) (fun Q => g_iconst (v := (0 : Int32)) d_JS_isLatin1_17 (by decide)) ?_
    exact S.ret (fun Q hq => g_zret rfl rfl d_JS_isLatin1_18 hq)
  · refine S.of1 (pc2 := 7) (fun Q => g_aload_n d_JS_isLatin1_6 rfl) ?_
    refine S.of1 (pc2 := 10) (fun Q => g_strc w_1642 d_JS_isLatin1_7) ?_
    refine S.br (c := (0 : Int32) = 0) (t := 13) (e := 17) (fun Q kt kf => g_if_ne d_JS_isLatin1_10 rfl kf kt) (fun h2 => ?_) (fun h2 => ?_)
    · refine S.of1 (pc2 := 14) (fun Q => g_iconst (v := (1 : Int32)) d_JS_isLatin1_13 (by decide)) ?_
      refine S.of1 (pc2 := 18) (fun Q => g_goto d_JS_isLatin1_14 rfl) ?_
      exact S.ret (fun Q hq => g_zret rfl rfl d_JS_isLatin1_18 hq)
    · refine S.of1 (pc2 := 18) (fun Q => g_iconst (v := (0 : Int32)) d_JS_isLatin1_17 (by decide)) ?_
      exact S.ret (fun Q hq => g_zret rfl rfl d_JS_isLatin1_18 hq)
def f_JS_coder (σ : gS) : Option Int32 :=
  if (1 : Int32) = 0 then some (1 : Int32) else some (0 : Int32)
theorem c_JS_coder (d : Nat) (hd : 1 ≤ d) (σ : gS) : C (rI σ) d m_JS_coder [.ref 1004] σ (f_JS_coder σ) := by
  unfold f_JS_coder
  refine C.of (by decide +kernel) (Nat.le_of_ble_eq_true rfl) (L := [some (.ref 1004)]) rfl ?_
  refine S.of1 (pc2 := 3) (fun Q => g_gZ w_580 d_JS_coder_0) ?_
  refine S.br (c := (1 : Int32) = 0) (t := 13) (e := 6) (fun Q kt kf => g_if_eq d_JS_coder_3 rfl kt kf) (fun h1 => ?_) (fun h1 => ?_)
  · refine S.of1 (pc2 := 14) (fun Q => g_iconst (v := (1 : Int32)) d_JS_coder_13 (by decide)) ?_
    exact S.ret (fun Q hq => g_zret rfl rfl d_JS_coder_14 hq)
  · refine S.of1 (pc2 := 7) (fun Q => g_aload_n d_JS_coder_6 rfl) ?_
    refine S.of1 (pc2 := 10) (fun Q => g_strc w_1642 d_JS_coder_7) ?_
    refine S.of1 (pc2 := 14) (fun Q => g_goto d_JS_coder_10 rfl) ?_
    exact S.ret (fun Q hq => g_zret rfl rfl d_JS_coder_14 hq)
def f_JS_length (σ : gS) : Option Int32 :=
  (f_JS_coder σ).bind fun q1 => some ((6 : Int32) >>> (q1 &&& 31))
theorem c_JS_length (d : Nat) (hd : 2 ≤ d) (σ : gS) : C (rI σ) d m_JS_length [.ref 1004] σ (f_JS_length σ) := by
  unfold f_JS_length
  refine C.of (by decide +kernel) (Nat.le_of_ble_eq_true rfl) (L := [some (.ref 1004)]) rfl ?_
  refine S.of1 (pc2 := 1) (fun Q => g_aload_n d_JS_length_0 rfl) ?_
  refine S.of1 (pc2 := 4) (fun Q => g_strv w_1643 d_JS_length_1) ?_
  refine S.of1 (pc2 := 5) (fun Q => g_blen d_JS_length_4) ?_
  refine S.of1 (pc2 := 6) (fun Q => g_aload_n d_JS_length_5 rfl) ?_
  refine S.call_rI (pc3 := 9) rfl (c_JS_coder (d - 1) (by omega) σ) (fun Q => g_callVS (M2 := m_JS_coder) (vs := []) (st := [.int (6 : Int32)]) lv_RJ0_335 rfl rfl (Nat.le_of_ble_eq_true rfl) (by omega) (Nat.le_of_ble_eq_true rfl) rfl d_JS_length_6) (fun q1 => ?_)
  refine S.of1 (pc2 := 10) (fun Q => g_ishr d_JS_length_9) ?_
  exact S.ret (fun Q hq => g_iret rfl d_JS_length_10 hq)
def f_JL_canEncode (v0 : Int32) : Option Int32 :=
  if v0 < 0 then some (0 : Int32) else if (255 : Int32) < v0 then some (0 : Int32) else some (1 : Int32)
theorem c_JL_canEncode (d : Nat) (hd : 1 ≤ d) (v0 : Int32) (σ : gS) : C (rI σ) d m_JL_canEncode [.int v0] σ (f_JL_canEncode v0) := by
  unfold f_JL_canEncode
  refine C.of (by decide +kernel) (Nat.le_of_ble_eq_true rfl) (L := [some (.int v0)]) rfl ?_
  refine S.of1 (pc2 := 1) (fun Q => g_iload_n d_JL_canEncode_0 rfl) ?_
  refine S.br (c := v0 < 0) (t := 15) (e := 4) (fun Q kt kf => g_if_lt d_JL_canEncode_1 rfl kt kf) (fun h1 => ?_) (fun h1 => ?_)
  · refine S.of1 (pc2 := 16) (fun Q => g_iconst (v := (0 : Int32)) d_JL_canEncode_15 (by decide)) ?_
    exact S.ret (fun Q hq => g_zret rfl rfl d_JL_canEncode_16 hq)
  · refine S.of1 (pc2 := 5) (fun Q => g_iload_n d_JL_canEncode_4 rfl) ?_
    refine S.of1 (pc2 := 8) (fun Q => g_sipush (v := (255 : Int32)) d_JL_canEncode_5 (by decide)) ?_
    refine S.br (c := (255 : Int32) < v0) (t := 15) (e := 11) (fun Q kt kf => g_icmp_gt d_JL_canEncode_8 rfl kt kf) (fun h2 => ?_) (fun h2 => ?_)
    · refine S.of1 (pc2 := 16) (fun Q => g_iconst (v := (0 : Int32)) d_JL_canEncode_15 (by decide)) ?_
      exact S.ret (fun Q hq => g_zret rfl rfl d_JL_canEncode_16 hq)
    · refine S.of1 (pc2 := 12) (fun Q => g_iconst (v := (1 : Int32)) d_JL_canEncode_11 (by decide)) ?_
      refine S.of1 (pc2 := 16) (fun Q => g_goto d_JL_canEncode_12 rfl) ?_
      exact S.ret (fun Q hq => g_zret rfl rfl d_JL_canEncode_16 hq)
def f_JL_indexOfChar_L7 : Nat → Int32 → Int32 → Int32 → Option Int32
  | 0, _, _, _ => none
  | n + 1, v3, v4, v5 =>
  if v3 ≤ v5 then some (-1 : Int32) else if gix v5 6 then if (tb_TXT.getD v5.toNatClampNeg 0) = v4 then some v5 else (fun v3 v4 v5 => f_JL_indexOfChar_L7 n v3 v4 v5) v3 v4 (v5 + (1 : Int32)) else none
theorem s_JL_indexOfChar_L7 (d : Nat) (hd : 1 ≤ d) (σ : gS) : ∀ (n : Nat) (v3 : Int32) (v4 : Int32) (v5 : Int32), S (rI σ) m_JL_indexOfChar d 7 [some (.ref 1005), none, none, some (.int v3), some (.int v4), some (.int v5)] [] σ (f_JL_indexOfChar_L7 n v3 v4 v5) := by
  intro n
  induction n with
  | zero =>
    intros
    unfold f_JL_indexOfChar_L7
    exact S.no
  | succ n ih =>
    intro v3 v4 v5
    unfold f_JL_indexOfChar_L7
    refine S.of1 (pc2 := 9) (fun Q => g_iload d_JL_indexOfChar_7 rfl) ?_
    refine S.of1 (pc2 := 10) (fun Q => g_iload_n d_JL_indexOfChar_9 rfl) ?_
    refine S.br (c := v3 ≤ v5) (t := 31) (e := 13) (fun Q kt kf => g_icmp_ge d_JL_indexOfChar_10 rfl kt kf) (fun h2 => ?_) (fun h2 => ?_)
    · refine S.of1 (pc2 := 32) (fun Q => g_iconst (v := (-1 : Int32)) d_JL_indexOfChar_31 (by decide)) ?_
      exact S.ret (fun Q hq => g_iret rfl d_JL_indexOfChar_32 hq)
    · refine S.of1 (pc2 := 14) (fun Q => g_aload_n d_JL_indexOfChar_13 rfl) ?_
      refine S.of1 (pc2 := 16) (fun Q => g_iload d_JL_indexOfChar_14 rfl) ?_
      refine S.chk (fun h3 => ?_)
      refine S.of1 (pc2 := 17) (fun Q => g_bald (gix_in h3) d_JL_indexOfChar_16) ?_
      refine S.of1 (pc2 := 19) (fun Q => g_iload d_JL_indexOfChar_17 rfl) ?_
      refine S.br (c := (tb_TXT.getD v5.toNatClampNeg 0) = v4) (t := 22) (e := 25) (fun Q kt kf => g_icmp_ne d_JL_indexOfChar_19 rfl kf kt) (fun h4 => ?_) (fun h4 => ?_)
      · refine S.of1 (pc2 := 24) (fun Q => g_iload d_JL_indexOfChar_22 rfl) ?_
        exact S.ret (fun Q hq => g_iret rfl d_JL_indexOfChar_24 hq)
      · refine S.of1 (pc2 := 28) (L2 := [some (.ref 1005), none, none, some (.int v3), some (.int v4), some (.int (v5 + (1 : Int32)))]) (fun Q => g_iinc d_JL_indexOfChar_25 rfl (congrArg (fun z => v5 + z) (by decide)) (Nat.le_of_ble_eq_true rfl) rfl) ?_
        refine S.of1 (pc2 := 7) (fun Q => g_goto d_JL_indexOfChar_28 rfl) ?_
        exact S.wk (L2 := [some (.ref 1005), none, none, some (.int v3), some (.int v4), some (.int (v5 + (1 : Int32)))]) (And.intro rfl (And.intro rfl (And.intro rfl (And.intro rfl trivial)))) (ih v3 v4 (v5 + (1 : Int32)))
def f_JL_indexOfChar (v1 : Int32) (v2 : Int32) (v3 : Int32) : Option Int32 :=
  glt (v1.toInt8.toInt32) fun x1 => f_JL_indexOfChar_L7 gfu v3 x1 v2
theorem c_JL_indexOfChar (d : Nat) (hd : 1 ≤ d) (v1 : Int32) (v2 : Int32) (v3 : Int32) (σ : gS) : C (rI σ) d m_JL_indexOfChar [.ref 1005, .int v1, .int v2, .int v3] σ (f_JL_indexOfChar v1 v2 v3) := by
  unfold f_JL_indexOfChar
  refine C.of (by decide +kernel) (Nat.le_of_ble_eq_true rfl) (L := [some (.ref 1005), some (.int v1), some (.int v2), some (.int v3), none, none]) rfl ?_
  refine S.of1 (pc2 := 1) (fun Q => g_iload_n d_JL_indexOfChar_0 rfl) ?_
  refine S.of1 (pc2 := 2) (fun Q => g_i2b d_JL_indexOfChar_1) ?_
  refine S.of1 (pc2 := 4) (L2 := [some (.ref 1005), some (.int v1), some (.int v2), some (.int v3), some (.int (v1.toInt8.toInt32)), none]) (fun Q => g_istore d_JL_indexOfChar_2 (Nat.le_of_ble_eq_true rfl) rfl) ?_
  refine S.glt (x := (v1.toInt8.toInt32)) (Lf := fun y => [some (.ref 1005), some (.int v1), some (.int v2), some (.int v3), some (.int y), none]) (fun x1 => ?_)
  refine S.of1 (pc2 := 5) (fun Q => g_iload_n d_JL_indexOfChar_4 rfl) ?_
  refine S.of1 (pc2 := 7) (L2 := [some (.ref 1005), some (.int v1), some (.int v2), some (.int v3), some (.int x1), some (.int v2)]) (fun Q => g_istore d_JL_indexOfChar_5 (Nat.le_of_ble_eq_true rfl) rfl) ?_
  exact S.wk (L2 := [some (.ref 1005), none, none, some (.int v3), some (.int x1), some (.int v2)]) (And.intro rfl (And.intro rfl (And.intro rfl (And.intro rfl trivial)))) (s_JL_indexOfChar_L7 d hd σ gfu v3 x1 v2)
def f_JL_indexOf (v1 : Int32) (v2 : Int32) (v3 : Int32) : Option Int32 :=
  (f_JL_canEncode v1).bind fun q1 => if q1 = 0 then some (-1 : Int32) else glt (gmax v2 (0 : Int32)) fun x3 => glt (gmin v3 (6 : Int32)) fun x4 => if x3 < x4 then (f_JL_indexOfChar v1 x3 x4).bind fun q6 => some q6 else some (-1 : Int32)
theorem c_JL_indexOf (d : Nat) (hd : 2 ≤ d) (v1 : Int32) (v2 : Int32) (v3 : Int32) (σ : gS) : C (rI σ) d m_JL_indexOf [.ref 1005, .int v1, .int v2, .int v3] σ (f_JL_indexOf v1 v2 v3) := by
  unfold f_JL_indexOf
  refine C.of (by decide +kernel) (Nat.le_of_ble_eq_true rfl) (L := [some (.ref 1005), some (.int v1), some (.int v2), some (.int v3)]) rfl ?_
  refine S.of1 (pc2 := 1) (fun Q => g_iload_n d_JL_indexOf_0 rfl) ?_
  refine S.call_rI (pc3 := 4) rfl (c_JL_canEncode (d - 1) (by omega) v1 σ) (fun Q => g_callS (M2 := m_JL_canEncode) (vs := [.int v1]) (st := []) ls_RJ1_88 rfl (Nat.le_of_ble_eq_true rfl) (by omega) (Nat.le_of_ble_eq_true rfl) rfl d_JL_indexOf_1) (fun q1 => ?_)
  refine S.br (c := q1 = 0) (t := 7) (e := 9) (fun Q kt kf => g_if_ne d_JL_indexOf_4 rfl kf kt) (fun h2 => ?_) (fun h2 => ?_)
  · refine S.of1 (pc2 := 8) (fun Q => g_iconst (v := (-1 : Int32)) d_JL_indexOf_7 (by decide)) ?_
    exact S.ret (fun Q hq => g_iret rfl d_JL_indexOf_8 hq)
  · refine S.of1 (pc2 := 10) (fun Q => g_iload_n d_JL_indexOf_9 rfl) ?_
    refine S.of1 (pc2 := 11) (fun Q => g_iconst (v := (0 : Int32)) d_JL_indexOf_10 (by decide)) ?_
    refine S.of1 (pc2 := 14) (fun Q => g_mmax w_596 w_597 w_91 wc_max (by omega) (Nat.le_of_ble_eq_true rfl) d_JL_indexOf_11) ?_
    refine S.of1 (pc2 := 15) (L2 := [some (.ref 1005), some (.int v1), some (.int (gmax v2 (0 : Int32))), some (.int v3)]) (fun Q => g_istore_n d_JL_indexOf_14 (Nat.le_of_ble_eq_true rfl) rfl) ?_
    refine S.glt (x := (gmax v2 (0 : Int32))) (Lf := fun y => [some (.ref 1005), some (.int v1), some (.int y), some (.int v3)]) (fun x3 => ?_)
    refine S.of1 (pc2 := 16) (fun Q => g_iload_n d_JL_indexOf_15 rfl) ?_
    refine S.of1 (pc2 := 17) (fun Q => g_aload_n d_JL_indexOf_16 rfl) ?_
    refine S.of1 (pc2 := 18) (fun Q => g_blen d_JL_indexOf_17) ?_
    refine S.of1 (pc2 := 21) (fun Q => g_mmin w_599 w_600 w_91 wc_min (by omega) (Nat.le_of_ble_eq_true rfl) d_JL_indexOf_18) ?_
    refine S.of1 (pc2 := 22) (L2 := [some (.ref 1005), some (.int v1), some (.int x3), some (.int (gmin v3 (6 : Int32)))]) (fun Q => g_istore_n d_JL_indexOf_21 (Nat.le_of_ble_eq_true rfl) rfl) ?_
    refine S.glt (x := (gmin v3 (6 : Int32))) (Lf := fun y => [some (.ref 1005), some (.int v1), some (.int x3), some (.int y)]) (fun x4 => ?_)
    refine S.of1 (pc2 := 23) (fun Q => g_iload_n d_JL_indexOf_22 rfl) ?_
    refine S.of1 (pc2 := 24) (fun Q => g_iload_n d_JL_indexOf_23 rfl) ?_
    refine S.br (c := x3 < x4) (t := 29) (e := 27) (fun Q kt kf => g_icmp_lt d_JL_indexOf_24 rfl kt kf) (fun h5 => ?_) (fun h5 => ?_)
    · refine S.of1 (pc2 := 30) (fun Q => g_aload_n d_JL_indexOf_29 rfl) ?_
      refine S.of1 (pc2 := 31) (fun Q => g_iload_n d_JL_indexOf_30 rfl) ?_
      refine S.of1 (pc2 := 32) (fun Q => g_iload_n d_JL_indexOf_31 rfl) ?_
      refine S.of1 (pc2 := 33) (fun Q => g_iload_n d_JL_indexOf_32 rfl) ?_
      refine S.call_rI (pc3 := 36) rfl (c_JL_indexOfChar (d - 1) (by omega) v1 x3 x4 σ) (fun Q => g_callS (M2 := m_JL_indexOfChar) (vs := [.ref 1005, .int v1, .int x3, .int x4]) (st := []) ls_RJ1_95 rfl (Nat.le_of_ble_eq_true rfl) (by omega) (Nat.le_of_ble_eq_true rfl) rfl d_JL_indexOf_33) (fun q6 => ?_)
      exact S.ret (fun Q hq => g_iret rfl d_JL_indexOf_36 hq)
    · refine S.of1 (pc2 := 28) (fun Q => g_iconst (v := (-1 : Int32)) d_JL_indexOf_27 (by decide)) ?_
      exact S.ret (fun Q hq => g_iret rfl d_JL_indexOf_28 hq)
def f_JS_indexOf2 (v1 : Int32) (v2 : Int32) (σ : gS) : Option Int32 :=
  (f_JS_isLatin1 σ).bind fun q1 => if q1 = 0 then (f_JS_length σ).bind fun q3 => none else (f_JS_length σ).bind fun q4 => (f_JL_indexOf v1 v2 q4).bind fun q5 => some q5
theorem c_JS_indexOf2 (d : Nat) (hd : 3 ≤ d) (v1 : Int32) (v2 : Int32) (σ : gS) : C (rI σ) d m_JS_indexOf2 [.ref 1004, .int v1, .int v2] σ (f_JS_indexOf2 v1 v2 σ) := by
  unfold f_JS_indexOf2
  refine C.of (by decide +kernel) (Nat.le_of_ble_eq_true rfl) (L := [some (.ref 1004), some (.int v1), some (.int v2)]) rfl ?_
  refine S.of1 (pc2 := 1) (fun Q => g_aload_n d_JS_indexOf2_0 rfl) ?_
  refine S.call_rI (pc3 := 4) rfl (c_JS_isLatin1 (d - 1) (by omega) σ) (fun Q => g_callVS (M2 := m_JS_isLatin1) (vs := []) (st := []) lv_RJ0_492 rfl rfl (Nat.le_of_ble_eq_true rfl) (by omega) (Nat.le_of_ble_eq_true rfl) rfl d_JS_indexOf2_1) (fun q1 => ?_)
  refine S.br (c := q1 = 0) (t := 23) (e := 7) (fun Q kt kf => g_if_eq d_JS_indexOf2_4 rfl kt kf) (fun h2 => ?_) (fun h2 => ?_)
  · refine S.of1 (pc2 := 24) (fun Q => g_aload_n d_JS_indexOf2_23 rfl) ?_
    refine S.of1 (pc2 := 27) (fun Q => g_strv w_1643 d_JS_indexOf2_24) ?_
    refine S.of1 (pc2 := 28) (fun Q => g_iload_n d_JS_indexOf2_27 rfl) ?_
    refine S.of1 (pc2 := 29) (fun Q => g_iload_n d_JS_indexOf2_28 rfl) ?_
    refine S.of1 (pc2 := 30) (fun Q => g_aload_n d_JS_indexOf2_29 rfl) ?_
    refine S.call_rI (pc3 := 33) rfl (c_JS_length (d - 1) (by omega) σ) (fun Q => g_callVS (M2 := m_JS_length) (vs := []) (st := [.int v2, .int v1, .ref 1005]) lv_RJ0_505 rfl rfl (Nat.le_of_ble_eq_true rfl) (by omega) (Nat.le_of_ble_eq_true rfl) rfl d_JS_indexOf2_30) (fun q3 => ?_)
    exact S.no
  · refine S.of1 (pc2 := 8) (fun Q => g_aload_n d_JS_indexOf2_7 rfl) ?_
    refine S.of1 (pc2 := 11) (fun Q => g_strv w_1643 d_JS_indexOf2_8) ?_
    refine S.of1 (pc2 := 12) (fun Q => g_iload_n d_JS_indexOf2_11 rfl) ?_
    refine S.of1 (pc2 := 13) (fun Q => g_iload_n d_JS_indexOf2_12 rfl) ?_
    refine S.of1 (pc2 := 14) (fun Q => g_aload_n d_JS_indexOf2_13 rfl) ?_
    refine S.call_rI (pc3 := 17) rfl (c_JS_length (d - 1) (by omega) σ) (fun Q => g_callVS (M2 := m_JS_length) (vs := []) (st := [.int v2, .int v1, .ref 1005]) lv_RJ0_505 rfl rfl (Nat.le_of_ble_eq_true rfl) (by omega) (Nat.le_of_ble_eq_true rfl) rfl d_JS_indexOf2_14) (fun q4 => ?_)
    refine S.call_rI (pc3 := 20) rfl (c_JL_indexOf (d - 1) (by omega) v1 v2 q4 σ) (fun Q => g_callS (M2 := m_JL_indexOf) (vs := [.ref 1005, .int v1, .int v2, .int q4]) (st := []) ls_RJ0_637 rfl (Nat.le_of_ble_eq_true rfl) (by omega) (Nat.le_of_ble_eq_true rfl) rfl d_JS_indexOf2_17) (fun q5 => ?_)
    refine S.of1 (pc2 := 36) (fun Q => g_goto d_JS_indexOf2_20 rfl) ?_
    exact S.ret (fun Q hq => g_iret rfl d_JS_indexOf2_36 hq)
def f_JS_indexOf (v1 : Int32) (σ : gS) : Option Int32 :=
  (f_JS_indexOf2 v1 (0 : Int32) σ).bind fun q1 => some q1
theorem c_JS_indexOf (d : Nat) (hd : 4 ≤ d) (v1 : Int32) (σ : gS) : C (rI σ) d m_JS_indexOf [.ref 1004, .int v1] σ (f_JS_indexOf v1 σ) := by
  unfold f_JS_indexOf
  refine C.of (by decide +kernel) (Nat.le_of_ble_eq_true rfl) (L := [some (.ref 1004), some (.int v1)]) rfl ?_
  refine S.of1 (pc2 := 1) (fun Q => g_aload_n d_JS_indexOf_0 rfl) ?_
  refine S.of1 (pc2 := 2) (fun Q => g_iload_n d_JS_indexOf_1 rfl) ?_
  refine S.of1 (pc2 := 3) (fun Q => g_iconst (v := (0 : Int32)) d_JS_indexOf_2 (by decide)) ?_
  refine S.call_rI (pc3 := 6) rfl (c_JS_indexOf2 (d - 1) (by omega) v1 (0 : Int32) σ) (fun Q => g_callVS (M2 := m_JS_indexOf2) (vs := [.int v1, .int (0 : Int32)]) (st := []) lv_RJ0_633 rfl rfl (Nat.le_of_ble_eq_true rfl) (by omega) (Nat.le_of_ble_eq_true rfl) rfl d_JS_indexOf_3) (fun q1 => ?_)
  exact S.ret (fun Q hq => g_iret rfl d_JS_indexOf_6 hq)
def f_Pa_readRank_L34 (kreadRank : Int32 → Int32 → gS → Option gS) (kreadOperand : Int32 → gS → Option gS) : Nat → Int32 → Int32 → Int32 → Int32 → gS → Option gS
  | 0, _, _, _, _, _ => none
  | n + 1, v1, v2, v3, v4, σ =>
  if v3 ≤ v4 then some σ else if (σ.1 27 6) = (-1 : Int32) then (f_Pa_next σ).bind fun q6 => (f_Pa_rankOf q6).bind fun q7 => if q7 = v1 then (f_Pa_next σ).bind fun q9 => gup (gpi σ 27 5 ((σ.1 27 5) + (1 : Int32))) fun s10 => (kreadRank (v1 + (1 : Int32)) v2 s10).bind fun s11 => (f_Pa_emit q9 (0 : Int32) s11).bind fun s12 => (fun v1 v2 v3 v4 σ => f_Pa_readRank_L34 kreadRank kreadOperand n v1 v2 v3 v4 σ) v1 v2 v3 (v4 + (1 : Int32)) s12 else some σ else some σ
theorem s_Pa_readRank_L34 (D : Nat) (hD : 4 ≤ D) (kreadRank : Int32 → Int32 → gS → Option gS) (hkreadRank : ∀ (d : Nat) (_ : D ≤ d) (v1 : Int32) (v2 : Int32) (σ : gS), C wV d m_Pa_readRank [.ref 27, .int v1, .int v2] σ (kreadRank v1 v2 σ)) (kreadOperand : Int32 → gS → Option gS) (hkreadOperand : ∀ (d : Nat) (_ : D ≤ d) (v1 : Int32) (σ : gS), C wV d m_Pa_readOperand [.ref 27, .int v1] σ (kreadOperand v1 σ)) (d : Nat) (hd : D + 1 ≤ d) : ∀ (n : Nat) (v1 : Int32) (v2 : Int32) (v3 : Int32) (v4 : Int32) (σ : gS), S wV m_Pa_readRank d 34 [some (.ref 27), some (.int v1), some (.int v2), some (.int v3), some (.int v4), none] [] σ (f_Pa_readRank_L34 kreadRank kreadOperand n v1 v2 v3 v4 σ) := by
  intro n
  induction n with
  | zero =>
    intros
    unfold f_Pa_readRank_L34
    exact S.no
  | succ n ih =>
    intro v1 v2 v3 v4 σ
    unfold f_Pa_readRank_L34
    refine S.of1 (pc2 := 36) (fun Q => g_iload d_Pa_readRank_34 rfl) ?_
    refine S.of1 (pc2 := 37) (fun Q => g_iload_n d_Pa_readRank_36 rfl) ?_
    refine S.br (c := v3 ≤ v4) (t := 96) (e := 40) (fun Q kt kf => g_icmp_ge d_Pa_readRank_37 rfl kt kf) (fun h4 => ?_) (fun h4 => ?_)
    · exact S.ret (fun Q hq => g_vret rfl d_Pa_readRank_96 hq)
    · refine S.of1 (pc2 := 41) (fun Q => g_aload_n d_Pa_readRank_40 rfl) ?_
      refine S.of1 (pc2 := 44) (fun Q => g_geti fl_RX6_33 gc_27_6 d_Pa_readRank_41) ?_
      refine S.of1 (pc2 := 45) (fun Q => g_iconst (v := (-1 : Int32)) d_Pa_readRank_44 (by decide)) ?_
      refine S.br (c := (σ.1 27 6) = (-1 : Int32)) (t := 48) (e := 96) (fun Q kt kf => g_icmp_ne d_Pa_readRank_45 rfl kf kt) (fun h5 => ?_) (fun h5 => ?_)
      · refine S.of1 (pc2 := 49) (fun Q => g_aload_n d_Pa_readRank_48 rfl) ?_
        refine S.call_rI (pc3 := 52) rfl (c_Pa_next (d - 1) (by omega) σ) (fun Q => g_callV (M2 := m_Pa_next) (vs := []) (st := []) lv_RX6_75 gk_27 rfl rfl (Nat.le_of_ble_eq_true rfl) (by omega) (Nat.le_of_ble_eq_true rfl) rfl d_Pa_readRank_49) (fun q6 => ?_)
        refine S.call_rI (pc3 := 55) rfl (c_Pa_rankOf (d - 1) (by omega) q6 σ) (fun Q => g_callS (M2 := m_Pa_rankOf) (vs := [.int q6]) (st := []) ls_RX6_79 rfl (Nat.le_of_ble_eq_true rfl) (by omega) (Nat.le_of_ble_eq_true rfl) rfl d_Pa_readRank_52) (fun q7 => ?_)
        refine S.of1 (pc2 := 56) (fun Q => g_iload_n d_Pa_readRank_55 rfl) ?_
        refine S.br (c := q7 = v1) (t := 59) (e := 96) (fun Q kt kf => g_icmp_ne d_Pa_readRank_56 rfl kf kt) (fun h8 => ?_) (fun h8 => ?_)
        · refine S.of1 (pc2 := 60) (fun Q => g_aload_n d_Pa_readRank_59 rfl) ?_
          refine S.call_rI (pc3 := 63) rfl (c_Pa_next (d - 1) (by omega) σ) (fun Q => g_callV (M2 := m_Pa_next) (vs := []) (st := []) lv_RX6_75 gk_27 rfl rfl (Nat.le_of_ble_eq_true rfl) (by omega) (Nat.le_of_ble_eq_true rfl) rfl d_Pa_readRank_60) (fun q9 => ?_)
          refine S.of1 (pc2 := 65) (L2 := [some (.ref 27), some (.int v1), some (.int v2), some (.int v3), some (.int v4), some (.int q9)]) (fun Q => g_istore d_Pa_readRank_63 (Nat.le_of_ble_eq_true rfl) rfl) ?_
          refine S.of1 (pc2 := 66) (fun Q => g_aload_n d_Pa_readRank_65 rfl) ?_
          refine S.of1 (pc2 := 67) (fun Q => g_dup d_Pa_readRank_66 rfl) ?_
          refine S.of1 (pc2 := 70) (fun Q => g_geti fl_RX6_30 gc_27_5 d_Pa_readRank_67) ?_
          refine S.of1 (pc2 := 71) (fun Q => g_iconst (v := (1 : Int32)) d_Pa_readRank_70 (by decide)) ?_
          refine S.of1 (pc2 := 72) (fun Q => g_iadd d_Pa_readRank_71) ?_
          refine S.of1 (pc2 := 75) (fun Q => g_puti fl_RX6_30 gc_27_5 rfl rfl d_Pa_readRank_72) ?_
          refine S.gup (fun s10 => ?_)
          refine S.of1 (pc2 := 76) (fun Q => g_aload_n d_Pa_readRank_75 rfl) ?_
          refine S.of1 (pc2 := 77) (fun Q => g_iload_n d_Pa_readRank_76 rfl) ?_
          refine S.of1 (pc2 := 78) (fun Q => g_iconst (v := (1 : Int32)) d_Pa_readRank_77 (by decide)) ?_
          refine S.of1 (pc2 := 79) (fun Q => g_iadd d_Pa_readRank_78) ?_
          refine S.of1 (pc2 := 80) (fun Q => g_iload_n d_Pa_readRank_79 rfl) ?_
          refine S.call_wV (pc3 := 83) rfl (hkreadRank (d - 1) (by omega) (v1 + (1 : Int32)) v2 s10) (fun Q => g_callV (M2 := m_Pa_readRank) (vs := [.int (v1 + (1 : Int32)), .int v2]) (st := []) lv_RX6_60 gk_27 rfl rfl (Nat.le_of_ble_eq_true rfl) (by omega) (Nat.le_of_ble_eq_true rfl) rfl d_Pa_readRank_80) (fun s11 => ?_)
          refine S.of1 (pc2 := 84) (fun Q => g_aload_n d_Pa_readRank_83 rfl) ?_
          refine S.of1 (pc2 := 86) (fun Q => g_iload d_Pa_readRank_84 rfl) ?_
          refine S.of1 (pc2 := 87) (fun Q => g_iconst (v := (0 : Int32)) d_Pa_readRank_86 (by decide)) ?_
          refine S.call_wV (pc3 := 90) rfl (c_Pa_emit (d - 1) (by omega) q9 (0 : Int32) s11) (fun Q => g_callV (M2 := m_Pa_emit) (vs := [.int q9, .int (0 : Int32)]) (st := []) lv_RX6_64 gk_27 rfl rfl (Nat.le_of_ble_eq_true rfl) (by omega) (Nat.le_of_ble_eq_true rfl) rfl d_Pa_readRank_87) (fun s12 => ?_)
          refine S.of1 (pc2 := 93) (L2 := [some (.ref 27), some (.int v1), some (.int v2), some (.int v3), some (.int (v4 + (1 : Int32))), some (.int q9)]) (fun Q => g_iinc d_Pa_readRank_90 rfl (congrArg (fun z => v4 + z) (by decide)) (Nat.le_of_ble_eq_true rfl) rfl) ?_
          refine S.of1 (pc2 := 34) (fun Q => g_goto d_Pa_readRank_93 rfl) ?_
          exact S.wk (L2 := [some (.ref 27), some (.int v1), some (.int v2), some (.int v3), some (.int (v4 + (1 : Int32))), none]) (And.intro rfl (And.intro rfl (And.intro rfl (And.intro rfl (And.intro rfl trivial))))) (ih v1 v2 v3 (v4 + (1 : Int32)) s12)
        · exact S.ret (fun Q hq => g_vret rfl d_Pa_readRank_96 hq)
      · exact S.ret (fun Q hq => g_vret rfl d_Pa_readRank_96 hq)
def f_Pa_readRank_j30 (kreadRank : Int32 → Int32 → gS → Option gS) (kreadOperand : Int32 → gS → Option gS) (v1 : Int32) (v2 : Int32) (s0 : Int32) (σ : gS) : Option gS :=
  f_Pa_readRank_L34 kreadRank kreadOperand gfu v1 v2 s0 (0 : Int32) σ
theorem s_Pa_readRank_j30 (D : Nat) (hD : 4 ≤ D) (kreadRank : Int32 → Int32 → gS → Option gS) (hkreadRank : ∀ (d : Nat) (_ : D ≤ d) (v1 : Int32) (v2 : Int32) (σ : gS), C wV d m_Pa_readRank [.ref 27, .int v1, .int v2] σ (kreadRank v1 v2 σ)) (kreadOperand : Int32 → gS → Option gS) (hkreadOperand : ∀ (d : Nat) (_ : D ≤ d) (v1 : Int32) (σ : gS), C wV d m_Pa_readOperand [.ref 27, .int v1] σ (kreadOperand v1 σ)) (d : Nat) (hd : D + 1 ≤ d) (v1 : Int32) (v2 : Int32) (s0 : Int32) (σ : gS) : S wV m_Pa_readRank d 30 [some (.ref 27), some (.int v1), some (.int v2), none, none, none] [.int s0] σ (f_Pa_readRank_j30 kreadRank kreadOperand v1 v2 s0 σ) := by
  unfold f_Pa_readRank_j30
  refine S.of1 (pc2 := 31) (L2 := [some (.ref 27), some (.int v1), some (.int v2), some (.int s0), none, none]) (fun Q => g_istore_n d_Pa_readRank_30 (Nat.le_of_ble_eq_true rfl) rfl) ?_
  refine S.of1 (pc2 := 32) (fun Q => g_iconst (v := (0 : Int32)) d_Pa_readRank_31 (by decide)) ?_
  refine S.of1 (pc2 := 34) (L2 := [some (.ref 27), some (.int v1), some (.int v2), some (.int s0), some (.int (0 : Int32)), none]) (fun Q => g_istore d_Pa_readRank_32 (Nat.le_of_ble_eq_true rfl) rfl) ?_
  exact S.wk (L2 := [some (.ref 27), some (.int v1), some (.int v2), some (.int s0), some (.int (0 : Int32)), none]) (And.intro rfl (And.intro rfl (And.intro rfl (And.intro rfl (And.intro rfl trivial))))) (s_Pa_readRank_L34 D hD kreadRank hkreadRank kreadOperand hkreadOperand d hd gfu v1 v2 s0 (0 : Int32) σ)
def fo_Pa_readRank (kreadRank : Int32 → Int32 → gS → Option gS) (kreadOperand : Int32 → gS → Option gS) (v1 : Int32) (v2 : Int32) (σ : gS) : Option gS :=
  if v1 < (5 : Int32) then (kreadRank (v1 + (1 : Int32)) v2 σ).bind fun s2 => if v1 = (2 : Int32) then f_Pa_readRank_j30 kreadRank kreadOperand v1 v2 (1 : Int32) s2 else f_Pa_readRank_j30 kreadRank kreadOperand v1 v2 (120 : Int32) s2 else (kreadOperand v2 σ).bind fun s13 => some s13
theorem co_Pa_readRank (D : Nat) (hD : 4 ≤ D) (kreadRank : Int32 → Int32 → gS → Option gS) (hkreadRank : ∀ (d : Nat) (_ : D ≤ d) (v1 : Int32) (v2 : Int32) (σ : gS), C wV d m_Pa_readRank [.ref 27, .int v1, .int v2] σ (kreadRank v1 v2 σ)) (kreadOperand : Int32 → gS → Option gS) (hkreadOperand : ∀ (d : Nat) (_ : D ≤ d) (v1 : Int32) (σ : gS), C wV d m_Pa_readOperand [.ref 27, .int v1] σ (kreadOperand v1 σ)) (d : Nat) (hd : D + 1 ≤ d) (v1 : Int32) (v2 : Int32) (σ : gS) : C wV d m_Pa_readRank [.ref 27, .int v1, .int v2] σ (fo_Pa_readRank kreadRank kreadOperand v1 v2 σ) := by
  unfold fo_Pa_readRank
  refine C.of (by decide +kernel) (Nat.le_of_ble_eq_true rfl) (L := [some (.ref 27), some (.int v1), some (.int v2), none, none, none]) rfl ?_
  refine S.of1 (pc2 := 1) (fun Q => g_iload_n d_Pa_readRank_0 rfl) ?_
  refine S.of1 (pc2 := 2) (fun Q => g_iconst (v := (5 : Int32)) d_Pa_readRank_1 (by decide)) ?_
  refine S.br (c := v1 < (5 : Int32)) (t := 11) (e := 5) (fun Q kt kf => g_icmp_lt d_Pa_readRank_2 rfl kt kf) (fun h1 => ?_) (fun h1 => ?_)
  · refine S.of1 (pc2 := 12) (fun Q => g_aload_n d_Pa_readRank_11 rfl) ?_
    refine S.of1 (pc2 := 13) (fun Q => g_iload_n d_Pa_readRank_12 rfl) ?_
    refine S.of1 (pc2 := 14) (fun Q => g_iconst (v := (1 : Int32)) d_Pa_readRank_13 (by decide)) ?_
    refine S.of1 (pc2 := 15) (fun Q => g_iadd d_Pa_readRank_14) ?_
    refine S.of1 (pc2 := 16) (fun Q => g_iload_n d_Pa_readRank_15 rfl) ?_
    refine S.call_wV (pc3 := 19) rfl (hkreadRank (d - 1) (by omega) (v1 + (1 : Int32)) v2 σ) (fun Q => g_callV (M2 := m_Pa_readRank) (vs := [.int (v1 + (1 : Int32)), .int v2]) (st := []) lv_RX6_60 gk_27 rfl rfl (Nat.le_of_ble_eq_true rfl) (by omega) (Nat.le_of_ble_eq_true rfl) rfl d_Pa_readRank_16) (fun s2 => ?_)
    refine S.of1 (pc2 := 20) (fun Q => g_iload_n d_Pa_readRank_19 rfl) ?_
    refine S.of1 (pc2 := 21) (fun Q => g_iconst (v := (2 : Int32)) d_Pa_readRank_20 (by decide)) ?_
    refine S.br (c := v1 = (2 : Int32)) (t := 24) (e := 28) (fun Q kt kf => g_icmp_ne d_Pa_readRank_21 rfl kf kt) (fun h3 => ?_) (fun h3 => ?_)
    · refine S.of1 (pc2 := 25) (fun Q => g_iconst (v := (1 : Int32)) d_Pa_readRank_24 (by decide)) ?_
      refine S.of1 (pc2 := 30) (fun Q => g_goto d_Pa_readRank_25 rfl) ?_
      exact S.wk (L2 := [some (.ref 27), some (.int v1), some (.int v2), none, none, none]) (And.intro rfl (And.intro rfl (And.intro rfl trivial))) (s_Pa_readRank_j30 D hD kreadRank hkreadRank kreadOperand hkreadOperand d hd v1 v2 (1 : Int32) s2)
    · refine S.of1 (pc2 := 30) (fun Q => g_bipush (v := (120 : Int32)) d_Pa_readRank_28 (by decide)) ?_
      exact S.wk (L2 := [some (.ref 27), some (.int v1), some (.int v2), none, none, none]) (And.intro rfl (And.intro rfl (And.intro rfl trivial))) (s_Pa_readRank_j30 D hD kreadRank hkreadRank kreadOperand hkreadOperand d hd v1 v2 (120 : Int32) s2)
  · refine S.of1 (pc2 := 6) (fun Q => g_aload_n d_Pa_readRank_5 rfl) ?_
    refine S.of1 (pc2 := 7) (fun Q => g_iload_n d_Pa_readRank_6 rfl) ?_
    refine S.call_wV (pc3 := 10) rfl (hkreadOperand (d - 1) (by omega) v2 σ) (fun Q => g_callV (M2 := m_Pa_readOperand) (vs := [.int v2]) (st := []) lv_RX6_71 gk_27 rfl rfl (Nat.le_of_ble_eq_true rfl) (by omega) (Nat.le_of_ble_eq_true rfl) rfl d_Pa_readRank_7) (fun s13 => ?_)
    exact S.ret (fun Q hq => g_vret rfl d_Pa_readRank_10 hq)
def f_Pa_readOperand_j186 (kreadRank : Int32 → Int32 → gS → Option gS) (kreadOperand : Int32 → gS → Option gS) (σ : gS) : Option gS :=
  (f_Pa_refuse σ).bind fun s10 => some s10
theorem s_Pa_readOperand_j186 (D : Nat) (hD : 4 ≤ D) (kreadRank : Int32 → Int32 → gS → Option gS) (hkreadRank : ∀ (d : Nat) (_ : D ≤ d) (v1 : Int32) (v2 : Int32) (σ : gS), C wV d m_Pa_readRank [.ref 27, .int v1, .int v2] σ (kreadRank v1 v2 σ)) (kreadOperand : Int32 → gS → Option gS) (hkreadOperand : ∀ (d : Nat) (_ : D ≤ d) (v1 : Int32) (σ : gS), C wV d m_Pa_readOperand [.ref 27, .int v1] σ (kreadOperand v1 σ)) (d : Nat) (hd : D + 1 ≤ d) (σ : gS) : S wV m_Pa_readOperand d 186 [some (.ref 27), none, none, none] [] σ (f_Pa_readOperand_j186 kreadRank kreadOperand σ) := by
  unfold f_Pa_readOperand_j186
  refine S.of1 (pc2 := 187) (fun Q => g_aload_n d_Pa_readOperand_186 rfl) ?_
  refine S.call_wV (pc3 := 190) rfl (c_Pa_refuse (d - 1) (by omega) σ) (fun Q => g_callV (M2 := m_Pa_refuse) (vs := []) (st := []) lv_RX6_47 gk_27 rfl rfl (Nat.le_of_ble_eq_true rfl) (by omega) (Nat.le_of_ble_eq_true rfl) rfl d_Pa_readOperand_187) (fun s10 => ?_)
  exact S.ret (fun Q hq => g_vret rfl d_Pa_readOperand_190 hq)
def f_Pa_readOperand_j140 (kreadRank : Int32 → Int32 → gS → Option gS) (kreadOperand : Int32 → gS → Option gS) (v1 : Int32) (v2 : Int32) (σ : gS) : Option gS :=
  if (6 : Int32) ≤ v1 then f_Pa_readOperand_j186 kreadRank kreadOperand σ else if v2 = (40 : Int32) then gup (gpi σ 27 5 ((σ.1 27 5) + (1 : Int32))) fun s12 => (kreadRank (0 : Int32) (v1 + (1 : Int32)) s12).bind fun s13 => (f_Pa_meets (41 : Int32) s13).bind fun q14 => if q14.1 = 0 then (f_Pa_refuse q14.2).bind fun s16 => some s16 else some q14.2 else f_Pa_readOperand_j186 kreadRank kreadOperand σ
theorem s_Pa_readOperand_j140 (D : Nat) (hD : 4 ≤ D) (kreadRank : Int32 → Int32 → gS → Option gS) (hkreadRank : ∀ (d : Nat) (_ : D ≤ d) (v1 : Int32) (v2 : Int32) (σ : gS), C wV d m_Pa_readRank [.ref 27, .int v1, .int v2] σ (kreadRank v1 v2 σ)) (kreadOperand : Int32 → gS → Option gS) (hkreadOperand : ∀ (d : Nat) (_ : D ≤ d) (v1 : Int32) (σ : gS), C wV d m_Pa_readOperand [.ref 27, .int v1] σ (kreadOperand v1 σ)) (d : Nat) (hd : D + 1 ≤ d) (v1 : Int32) (v2 : Int32) (σ : gS) : S wV m_Pa_readOperand d 140 [some (.ref 27), some (.int v1), some (.int v2), none] [] σ (f_Pa_readOperand_j140 kreadRank kreadOperand v1 v2 σ) := by
  unfold f_Pa_readOperand_j140
  refine S.of1 (pc2 := 141) (fun Q => g_iload_n d_Pa_readOperand_140 rfl) ?_
  refine S.of1 (pc2 := 143) (fun Q => g_bipush (v := (6 : Int32)) d_Pa_readOperand_141 (by decide)) ?_
  refine S.br (c := (6 : Int32) ≤ v1) (t := 186) (e := 146) (fun Q kt kf => g_icmp_ge d_Pa_readOperand_143 rfl kt kf) (fun h9 => ?_) (fun h9 => ?_)
  · exact S.wk (L2 := [some (.ref 27), none, none, none]) (And.intro rfl trivial) (s_Pa_readOperand_j186 D hD kreadRank hkreadRank kreadOperand hkreadOperand d hd σ)
  · refine S.of1 (pc2 := 147) (fun Q => g_iload_n d_Pa_readOperand_146 rfl) ?_
    refine S.of1 (pc2 := 149) (fun Q => g_bipush (v := (40 : Int32)) d_Pa_readOperand_147 (by decide)) ?_
    refine S.br (c := v2 = (40 : Int32)) (t := 152) (e := 186) (fun Q kt kf => g_icmp_ne d_Pa_readOperand_149 rfl kf kt) (fun h11 => ?_) (fun h11 => ?_)
    · refine S.of1 (pc2 := 153) (fun Q => g_aload_n d_Pa_readOperand_152 rfl) ?_
      refine S.of1 (pc2 := 154) (fun Q => g_dup d_Pa_readOperand_153 rfl) ?_
      refine S.of1 (pc2 := 157) (fun Q => g_geti fl_RX6_30 gc_27_5 d_Pa_readOperand_154) ?_
      refine S.of1 (pc2 := 158) (fun Q => g_iconst (v := (1 : Int32)) d_Pa_readOperand_157 (by decide)) ?_
      refine S.of1 (pc2 := 159) (fun Q => g_iadd d_Pa_readOperand_158) ?_
      refine S.of1 (pc2 := 162) (fun Q => g_puti fl_RX6_30 gc_27_5 rfl rfl d_Pa_readOperand_159) ?_
      refine S.gup (fun s12 => ?_)
      refine S.of1 (pc2 := 163) (fun Q => g_aload_n d_Pa_readOperand_162 rfl) ?_
      refine S.of1 (pc2 := 164) (fun Q => g_iconst (v := (0 : Int32)) d_Pa_readOperand_163 (by decide)) ?_
      refine S.of1 (pc2 := 165) (fun Q => g_iload_n d_Pa_readOperand_164 rfl) ?_
      refine S.of1 (pc2 := 166) (fun Q => g_iconst (v := (1 : Int32)) d_Pa_readOperand_165 (by decide)) ?_
      refine S.of1 (pc2 := 167) (fun Q => g_iadd d_Pa_readOperand_166) ?_
      refine S.call_wV (pc3 := 170) rfl (hkreadRank (d - 1) (by omega) (0 : Int32) (v1 + (1 : Int32)) s12) (fun Q => g_callV (M2 := m_Pa_readRank) (vs := [.int (0 : Int32), .int (v1 + (1 : Int32))]) (st := []) lv_RX6_60 gk_27 rfl rfl (Nat.le_of_ble_eq_true rfl) (by omega) (Nat.le_of_ble_eq_true rfl) rfl d_Pa_readOperand_167) (fun s13 => ?_)
      refine S.of1 (pc2 := 171) (fun Q => g_aload_n d_Pa_readOperand_170 rfl) ?_
      refine S.of1 (pc2 := 173) (fun Q => g_bipush (v := (41 : Int32)) d_Pa_readOperand_171 (by decide)) ?_
      refine S.call_wI (pc3 := 176) rfl (c_Pa_meets (d - 1) (by omega) (41 : Int32) s13) (fun Q => g_callV (M2 := m_Pa_meets) (vs := [.int (41 : Int32)]) (st := []) lv_RX6_43 gk_27 rfl rfl (Nat.le_of_ble_eq_true rfl) (by omega) (Nat.le_of_ble_eq_true rfl) rfl d_Pa_readOperand_173) (fun q14 => ?_)
      refine S.br (c := q14.1 = 0) (t := 179) (e := 190) (fun Q kt kf => g_if_ne d_Pa_readOperand_176 rfl kf kt) (fun h15 => ?_) (fun h15 => ?_)
      · refine S.of1 (pc2 := 180) (fun Q => g_aload_n d_Pa_readOperand_179 rfl) ?_
        refine S.call_wV (pc3 := 183) rfl (c_Pa_refuse (d - 1) (by omega) q14.2) (fun Q => g_callV (M2 := m_Pa_refuse) (vs := []) (st := []) lv_RX6_47 gk_27 rfl rfl (Nat.le_of_ble_eq_true rfl) (by omega) (Nat.le_of_ble_eq_true rfl) rfl d_Pa_readOperand_180) (fun s16 => ?_)
        refine S.of1 (pc2 := 190) (fun Q => g_goto d_Pa_readOperand_183 rfl) ?_
        exact S.ret (fun Q hq => g_vret rfl d_Pa_readOperand_190 hq)
      · exact S.ret (fun Q hq => g_vret rfl d_Pa_readOperand_190 hq)
    · exact S.wk (L2 := [some (.ref 27), none, none, none]) (And.intro rfl trivial) (s_Pa_readOperand_j186 D hD kreadRank hkreadRank kreadOperand hkreadOperand d hd σ)
def f_Pa_readOperand_j133 (kreadRank : Int32 → Int32 → gS → Option gS) (kreadOperand : Int32 → gS → Option gS) (s0 : Int32) (σ : gS) : Option gS :=
  (f_Pa_emit s0 (0 : Int32) σ).bind fun s21 => some s21
theorem s_Pa_readOperand_j133 (D : Nat) (hD : 4 ≤ D) (kreadRank : Int32 → Int32 → gS → Option gS) (hkreadRank : ∀ (d : Nat) (_ : D ≤ d) (v1 : Int32) (v2 : Int32) (σ : gS), C wV d m_Pa_readRank [.ref 27, .int v1, .int v2] σ (kreadRank v1 v2 σ)) (kreadOperand : Int32 → gS → Option gS) (hkreadOperand : ∀ (d : Nat) (_ : D ≤ d) (v1 : Int32) (σ : gS), C wV d m_Pa_readOperand [.ref 27, .int v1] σ (kreadOperand v1 σ)) (d : Nat) (hd : D + 1 ≤ d) (s0 : Int32) (σ : gS) : S wV m_Pa_readOperand d 133 [none, none, none, none] [.int s0, .ref 27] σ (f_Pa_readOperand_j133 kreadRank kreadOperand s0 σ) := by
  unfold f_Pa_readOperand_j133
  refine S.of1 (pc2 := 134) (fun Q => g_iconst (v := (0 : Int32)) d_Pa_readOperand_133 (by decide)) ?_
  refine S.call_wV (pc3 := 137) rfl (c_Pa_emit (d - 1) (by omega) s0 (0 : Int32) σ) (fun Q => g_callV (M2 := m_Pa_emit) (vs := [.int s0, .int (0 : Int32)]) (st := []) lv_RX6_64 gk_27 rfl rfl (Nat.le_of_ble_eq_true rfl) (by omega) (Nat.le_of_ble_eq_true rfl) rfl d_Pa_readOperand_134) (fun s21 => ?_)
  refine S.of1 (pc2 := 190) (fun Q => g_goto d_Pa_readOperand_137 rfl) ?_
  exact S.ret (fun Q hq => g_vret rfl d_Pa_readOperand_190 hq)
def f_Pa_readOperand_j104 (kreadRank : Int32 → Int32 → gS → Option gS) (kreadOperand : Int32 → gS → Option gS) (v1 : Int32) (v2 : Int32) (σ : gS) : Option gS :=
  gup (gpi σ 27 5 ((σ.1 27 5) + (1 : Int32))) fun s18 => (kreadOperand (v1 + (1 : Int32)) s18).bind fun s19 => if v2 = (33 : Int32) then f_Pa_readOperand_j133 kreadRank kreadOperand (3 : Int32) s19 else f_Pa_readOperand_j133 kreadRank kreadOperand (4 : Int32) s19
theorem s_Pa_readOperand_j104 (D : Nat) (hD : 4 ≤ D) (kreadRank : Int32 → Int32 → gS → Option gS) (hkreadRank : ∀ (d : Nat) (_ : D ≤ d) (v1 : Int32) (v2 : Int32) (σ : gS), C wV d m_Pa_readRank [.ref 27, .int v1, .int v2] σ (kreadRank v1 v2 σ)) (kreadOperand : Int32 → gS → Option gS) (hkreadOperand : ∀ (d : Nat) (_ : D ≤ d) (v1 : Int32) (σ : gS), C wV d m_Pa_readOperand [.ref 27, .int v1] σ (kreadOperand v1 σ)) (d : Nat) (hd : D + 1 ≤ d) (v1 : Int32) (v2 : Int32) (σ : gS) : S wV m_Pa_readOperand d 104 [some (.ref 27), some (.int v1), some (.int v2), none] [] σ (f_Pa_readOperand_j104 kreadRank kreadOperand v1 v2 σ) := by
  unfold f_Pa_readOperand_j104
  refine S.of1 (pc2 := 105) (fun Q => g_aload_n d_Pa_readOperand_104 rfl) ?_
  refine S.of1 (pc2 := 106) (fun Q => g_dup d_Pa_readOperand_105 rfl) ?_
  refine S.of1 (pc2 := 109) (fun Q => g_geti fl_RX6_30 gc_27_5 d_Pa_readOperand_106) ?_
  refine S.of1 (pc2 := 110) (fun Q => g_iconst (v := (1 : Int32)) d_Pa_readOperand_109 (by decide)) ?_
  refine S.of1 (pc2 := 111) (fun Q => g_iadd d_Pa_readOperand_110) ?_
  refine S.of1 (pc2 := 114) (fun Q => g_puti fl_RX6_30 gc_27_5 rfl rfl d_Pa_readOperand_111) ?_
  refine S.gup (fun s18 => ?_)
  refine S.of1 (pc2 := 115) (fun Q => g_aload_n d_Pa_readOperand_114 rfl) ?_
  refine S.of1 (pc2 := 116) (fun Q => g_iload_n d_Pa_readOperand_115 rfl) ?_
  refine S.of1 (pc2 := 117) (fun Q => g_iconst (v := (1 : Int32)) d_Pa_readOperand_116 (by decide)) ?_
  refine S.of1 (pc2 := 118) (fun Q => g_iadd d_Pa_readOperand_117) ?_
  refine S.call_wV (pc3 := 121) rfl (hkreadOperand (d - 1) (by omega) (v1 + (1 : Int32)) s18) (fun Q => g_callV (M2 := m_Pa_readOperand) (vs := [.int (v1 + (1 : Int32))]) (st := []) lv_RX6_71 gk_27 rfl rfl (Nat.le_of_ble_eq_true rfl) (by omega) (Nat.le_of_ble_eq_true rfl) rfl d_Pa_readOperand_118) (fun s19 => ?_)
  refine S.of1 (pc2 := 122) (fun Q => g_aload_n d_Pa_readOperand_121 rfl) ?_
  refine S.of1 (pc2 := 123) (fun Q => g_iload_n d_Pa_readOperand_122 rfl) ?_
  refine S.of1 (pc2 := 125) (fun Q => g_bipush (v := (33 : Int32)) d_Pa_readOperand_123 (by decide)) ?_
  refine S.br (c := v2 = (33 : Int32)) (t := 128) (e := 132) (fun Q kt kf => g_icmp_ne d_Pa_readOperand_125 rfl kf kt) (fun h20 => ?_) (fun h20 => ?_)
  · refine S.of1 (pc2 := 129) (fun Q => g_iconst (v := (3 : Int32)) d_Pa_readOperand_128 (by decide)) ?_
    refine S.of1 (pc2 := 133) (fun Q => g_goto d_Pa_readOperand_129 rfl) ?_
    exact S.wk (L2 := [none, none, none, none]) trivial (s_Pa_readOperand_j133 D hD kreadRank hkreadRank kreadOperand hkreadOperand d hd (3 : Int32) s19)
  · refine S.of1 (pc2 := 133) (fun Q => g_iconst (v := (4 : Int32)) d_Pa_readOperand_132 (by decide)) ?_
    exact S.wk (L2 := [none, none, none, none]) trivial (s_Pa_readOperand_j133 D hD kreadRank hkreadRank kreadOperand hkreadOperand d hd (4 : Int32) s19)
def f_Pa_readOperand_j79 (kreadRank : Int32 → Int32 → gS → Option gS) (kreadOperand : Int32 → gS → Option gS) (s0 : Int32) (s1 : Int32) (σ : gS) : Option gS :=
  if gzb (s1 ||| s0) then gup (gpi σ 27 7 (s1 ||| s0)) fun s27 => some s27 else none
theorem s_Pa_readOperand_j79 (D : Nat) (hD : 4 ≤ D) (kreadRank : Int32 → Int32 → gS → Option gS) (hkreadRank : ∀ (d : Nat) (_ : D ≤ d) (v1 : Int32) (v2 : Int32) (σ : gS), C wV d m_Pa_readRank [.ref 27, .int v1, .int v2] σ (kreadRank v1 v2 σ)) (kreadOperand : Int32 → gS → Option gS) (hkreadOperand : ∀ (d : Nat) (_ : D ≤ d) (v1 : Int32) (σ : gS), C wV d m_Pa_readOperand [.ref 27, .int v1] σ (kreadOperand v1 σ)) (d : Nat) (hd : D + 1 ≤ d) (s0 : Int32) (s1 : Int32) (σ : gS) : S wV m_Pa_readOperand d 79 [none, none, none, none] [.int s0, .int s1, .ref 27] σ (f_Pa_readOperand_j79 kreadRank kreadOperand s0 s1 σ) := by
  unfold f_Pa_readOperand_j79
  refine S.of1 (pc2 := 80) (fun Q => g_ior d_Pa_readOperand_79) ?_
  refine S.chk (fun h26 => ?_)
  refine S.of1 (pc2 := 83) (fun Q => g_puti fl_RX6_36 gc_27_7 (gzb_n h26) h26 d_Pa_readOperand_80) ?_
  refine S.gup (fun s27 => ?_)
  refine S.of1 (pc2 := 190) (fun Q => g_goto d_Pa_readOperand_83 rfl) ?_
  exact S.ret (fun Q hq => g_vret rfl d_Pa_readOperand_190 hq)
def f_Pa_readOperand_j20 (kreadRank : Int32 → Int32 → gS → Option gS) (kreadOperand : Int32 → gS → Option gS) (v1 : Int32) (v2 : Int32) (s0 : Int32) (σ : gS) : Option gS :=
  if (σ.1 27 6) = (-1 : Int32) then (f_Pa_isDigit v2).bind fun q5 => if q5 = 0 then if s0 < 0 then if (6 : Int32) ≤ v1 then f_Pa_readOperand_j140 kreadRank kreadOperand v1 v2 σ else if v2 = (33 : Int32) then f_Pa_readOperand_j104 kreadRank kreadOperand v1 v2 σ else if v2 = (45 : Int32) then f_Pa_readOperand_j104 kreadRank kreadOperand v1 v2 σ else f_Pa_readOperand_j140 kreadRank kreadOperand v1 v2 σ else gup (gpi σ 27 5 ((σ.1 27 5) + (1 : Int32))) fun s23 => (f_Pa_emit (2 : Int32) s0 s23).bind fun s24 => if s0 = (4 : Int32) then f_Pa_readOperand_j79 kreadRank kreadOperand (1 : Int32) (s24.1 27 7) s24 else f_Pa_readOperand_j79 kreadRank kreadOperand (0 : Int32) (s24.1 27 7) s24 else (f_Pa_readNumber σ).bind fun s28 => some s28 else some σ
theorem s_Pa_readOperand_j20 (D : Nat) (hD : 4 ≤ D) (kreadRank : Int32 → Int32 → gS → Option gS) (hkreadRank : ∀ (d : Nat) (_ : D ≤ d) (v1 : Int32) (v2 : Int32) (σ : gS), C wV d m_Pa_readRank [.ref 27, .int v1, .int v2] σ (kreadRank v1 v2 σ)) (kreadOperand : Int32 → gS → Option gS) (hkreadOperand : ∀ (d : Nat) (_ : D ≤ d) (v1 : Int32) (σ : gS), C wV d m_Pa_readOperand [.ref 27, .int v1] σ (kreadOperand v1 σ)) (d : Nat) (hd : D + 1 ≤ d) (v1 : Int32) (v2 : Int32) (s0 : Int32) (σ : gS) : S wV m_Pa_readOperand d 20 [some (.ref 27), some (.int v1), some (.int v2), none] [.int s0] σ (f_Pa_readOperand_j20 kreadRank kreadOperand v1 v2 s0 σ) := by
  unfold f_Pa_readOperand_j20
  refine S.of1 (pc2 := 21) (L2 := [some (.ref 27), some (.int v1), some (.int v2), some (.int s0)]) (fun Q => g_istore_n d_Pa_readOperand_20 (Nat.le_of_ble_eq_true rfl) rfl) ?_
  refine S.of1 (pc2 := 22) (fun Q => g_aload_n d_Pa_readOperand_21 rfl) ?_
  refine S.of1 (pc2 := 25) (fun Q => g_geti fl_RX6_33 gc_27_6 d_Pa_readOperand_22) ?_
  refine S.of1 (pc2 := 26) (fun Q => g_iconst (v := (-1 : Int32)) d_Pa_readOperand_25 (by decide)) ?_
  refine S.br (c := (σ.1 27 6) = (-1 : Int32)) (t := 30) (e := 29) (fun Q kt kf => g_icmp_eq d_Pa_readOperand_26 rfl kt kf) (fun h4 => ?_) (fun h4 => ?_)
  · refine S.of1 (pc2 := 31) (fun Q => g_iload_n d_Pa_readOperand_30 rfl) ?_
    refine S.call_rI (pc3 := 34) rfl (c_Pa_isDigit (d - 1) (by omega) v2 σ) (fun Q => g_callS (M2 := m_Pa_isDigit) (vs := [.int v2]) (st := []) ls_RX6_90 rfl (Nat.le_of_ble_eq_true rfl) (by omega) (Nat.le_of_ble_eq_true rfl) rfl d_Pa_readOperand_31) (fun q5 => ?_)
    refine S.br (c := q5 = 0) (t := 44) (e := 37) (fun Q kt kf => g_if_eq d_Pa_readOperand_34 rfl kt kf) (fun h6 => ?_) (fun h6 => ?_)
    · refine S.of1 (pc2 := 45) (fun Q => g_iload_n d_Pa_readOperand_44 rfl) ?_
      refine S.br (c := s0 < 0) (t := 86) (e := 48) (fun Q kt kf => g_if_lt d_Pa_readOperand_45 rfl kt kf) (fun h7 => ?_) (fun h7 => ?_)
      · refine S.of1 (pc2 := 87) (fun Q => g_iload_n d_Pa_readOperand_86 rfl) ?_
        refine S.of1 (pc2 := 89) (fun Q => g_bipush (v := (6 : Int32)) d_Pa_readOperand_87 (by decide)) ?_
        refine S.br (c := (6 : Int32) ≤ v1) (t := 140) (e := 92) (fun Q kt kf => g_icmp_ge d_Pa_readOperand_89 rfl kt kf) (fun h8 => ?_) (fun h8 => ?_)
        · exact S.wk (L2 := [some (.ref 27), some (.int v1), some (.int v2), none]) (And.intro rfl (And.intro rfl (And.intro rfl trivial))) (s_Pa_readOperand_j140 D hD kreadRank hkreadRank kreadOperand hkreadOperand d hd v1 v2 σ)
        · refine S.of1 (pc2 := 93) (fun Q => g_iload_n d_Pa_readOperand_92 rfl) ?_
          refine S.of1 (pc2 := 95) (fun Q => g_bipush (v := (33 : Int32)) d_Pa_readOperand_93 (by decide)) ?_
          refine S.br (c := v2 = (33 : Int32)) (t := 104) (e := 98) (fun Q kt kf => g_icmp_eq d_Pa_readOperand_95 rfl kt kf) (fun h17 => ?_) (fun h17 => ?_)
          · exact S.wk (L2 := [some (.ref 27), some (.int v1), some (.int v2), none]) (And.intro rfl (And.intro rfl (And.intro rfl trivial))) (s_Pa_readOperand_j104 D hD kreadRank hkreadRank kreadOperand hkreadOperand d hd v1 v2 σ)
          · refine S.of1 (pc2 := 99) (fun Q => g_iload_n d_Pa_readOperand_98 rfl) ?_
            refine S.of1 (pc2 := 101) (fun Q => g_bipush (v := (45 : Int32)) d_Pa_readOperand_99 (by decide)) ?_
            refine S.br (c := v2 = (45 : Int32)) (t := 104) (e := 140) (fun Q kt kf => g_icmp_ne d_Pa_readOperand_101 rfl kf kt) (fun h22 => ?_) (fun h22 => ?_)
            · exact S.wk (L2 := [some (.ref 27), some (.int v1), some (.int v2), none]) (And.intro rfl (And.intro rfl (And.intro rfl trivial))) (s_Pa_readOperand_j104 D hD kreadRank hkreadRank kreadOperand hkreadOperand d hd v1 v2 σ)
            · exact S.wk (L2 := [some (.ref 27), some (.int v1), some (.int v2), none]) (And.intro rfl (And.intro rfl (And.intro rfl trivial))) (s_Pa_readOperand_j140 D hD kreadRank hkreadRank kreadOperand hkreadOperand d hd v1 v2 σ)
      · refine S.of1 (pc2 := 49) (fun Q => g_aload_n d_Pa_readOperand_48 rfl) ?_
        refine S.of1 (pc2 := 50) (fun Q => g_dup d_Pa_readOperand_49 rfl) ?_
        refine S.of1 (pc2 := 53) (fun Q => g_geti fl_RX6_30 gc_27_5 d_Pa_readOperand_50) ?_
        refine S.of1 (pc2 := 54) (fun Q => g_iconst (v := (1 : Int32)) d_Pa_readOperand_53 (by decide)) ?_
        refine S.of1 (pc2 := 55) (fun Q => g_iadd d_Pa_readOperand_54) ?_
        refine S.of1 (pc2 := 58) (fun Q => g_puti fl_RX6_30 gc_27_5 rfl rfl d_Pa_readOperand_55) ?_
        refine S.gup (fun s23 => ?_)
        refine S.of1 (pc2 := 59) (fun Q => g_aload_n d_Pa_readOperand_58 rfl) ?_
        refine S.of1 (pc2 := 60) (fun Q => g_iconst (v := (2 : Int32)) d_Pa_readOperand_59 (by decide)) ?_
        refine S.of1 (pc2 := 61) (fun Q => g_iload_n d_Pa_readOperand_60 rfl) ?_
        refine S.call_wV (pc3 := 64) rfl (c_Pa_emit (d - 1) (by omega) (2 : Int32) s0 s23) (fun Q => g_callV (M2 := m_Pa_emit) (vs := [.int (2 : Int32), .int s0]) (st := []) lv_RX6_64 gk_27 rfl rfl (Nat.le_of_ble_eq_true rfl) (by omega) (Nat.le_of_ble_eq_true rfl) rfl d_Pa_readOperand_61) (fun s24 => ?_)
        refine S.of1 (pc2 := 65) (fun Q => g_aload_n d_Pa_readOperand_64 rfl) ?_
        refine S.of1 (pc2 := 66) (fun Q => g_dup d_Pa_readOperand_65 rfl) ?_
        refine S.of1 (pc2 := 69) (fun Q => g_geti fl_RX6_36 gc_27_7 d_Pa_readOperand_66) ?_
        refine S.of1 (pc2 := 70) (fun Q => g_iload_n d_Pa_readOperand_69 rfl) ?_
        refine S.of1 (pc2 := 71) (fun Q => g_iconst (v := (4 : Int32)) d_Pa_readOperand_70 (by decide)) ?_
        refine S.br (c := s0 = (4 : Int32)) (t := 74) (e := 78) (fun Q kt kf => g_icmp_ne d_Pa_readOperand_71 rfl kf kt) (fun h25 => ?_) (fun h25 => ?_)
        · refine S.of1 (pc2 := 75) (fun Q => g_iconst (v := (1 : Int32)) d_Pa_readOperand_74 (by decide)) ?_
          refine S.of1 (pc2 := 79) (fun Q => g_goto d_Pa_readOperand_75 rfl) ?_
          exact S.wk (L2 := [none, none, none, none]) trivial (s_Pa_readOperand_j79 D hD kreadRank hkreadRank kreadOperand hkreadOperand d hd (1 : Int32) (s24.1 27 7) s24)
        · refine S.of1 (pc2 := 79) (fun Q => g_iconst (v := (0 : Int32)) d_Pa_readOperand_78 (by decide)) ?_
          exact S.wk (L2 := [none, none, none, none]) trivial (s_Pa_readOperand_j79 D hD kreadRank hkreadRank kreadOperand hkreadOperand d hd (0 : Int32) (s24.1 27 7) s24)
    · refine S.of1 (pc2 := 38) (fun Q => g_aload_n d_Pa_readOperand_37 rfl) ?_
      refine S.call_wV (pc3 := 41) rfl (c_Pa_readNumber (d - 1) (by omega) σ) (fun Q => g_callV (M2 := m_Pa_readNumber) (vs := []) (st := []) lv_RX6_93 gk_27 rfl rfl (Nat.le_of_ble_eq_true rfl) (by omega) (Nat.le_of_ble_eq_true rfl) rfl d_Pa_readOperand_38) (fun s28 => ?_)
      refine S.of1 (pc2 := 190) (fun Q => g_goto d_Pa_readOperand_41 rfl) ?_
      exact S.ret (fun Q hq => g_vret rfl d_Pa_readOperand_190 hq)
  · exact S.ret (fun Q hq => g_vret rfl d_Pa_readOperand_29 hq)
def fo_Pa_readOperand (kreadRank : Int32 → Int32 → gS → Option gS) (kreadOperand : Int32 → gS → Option gS) (v1 : Int32) (σ : gS) : Option gS :=
  (f_Pa_next σ).bind fun q1 => if 0 ≤ q1 then (f_JS_indexOf ((q1.toUInt32 % 65536).toInt32) σ).bind fun q3 => f_Pa_readOperand_j20 kreadRank kreadOperand v1 q1 q3 σ else f_Pa_readOperand_j20 kreadRank kreadOperand v1 q1 (-1 : Int32) σ
theorem co_Pa_readOperand (D : Nat) (hD : 4 ≤ D) (kreadRank : Int32 → Int32 → gS → Option gS) (hkreadRank : ∀ (d : Nat) (_ : D ≤ d) (v1 : Int32) (v2 : Int32) (σ : gS), C wV d m_Pa_readRank [.ref 27, .int v1, .int v2] σ (kreadRank v1 v2 σ)) (kreadOperand : Int32 → gS → Option gS) (hkreadOperand : ∀ (d : Nat) (_ : D ≤ d) (v1 : Int32) (σ : gS), C wV d m_Pa_readOperand [.ref 27, .int v1] σ (kreadOperand v1 σ)) (d : Nat) (hd : D + 1 ≤ d) (v1 : Int32) (σ : gS) : C wV d m_Pa_readOperand [.ref 27, .int v1] σ (fo_Pa_readOperand kreadRank kreadOperand v1 σ) := by
  unfold fo_Pa_readOperand
  refine C.of (by decide +kernel) (Nat.le_of_ble_eq_true rfl) (L := [some (.ref 27), some (.int v1), none, none]) rfl ?_
  refine S.of1 (pc2 := 1) (fun Q => g_aload_n d_Pa_readOperand_0 rfl) ?_
  refine S.call_rI (pc3 := 4) rfl (c_Pa_next (d - 1) (by omega) σ) (fun Q => g_callV (M2 := m_Pa_next) (vs := []) (st := []) lv_RX6_75 gk_27 rfl rfl (Nat.le_of_ble_eq_true rfl) (by omega) (Nat.le_of_ble_eq_true rfl) rfl d_Pa_readOperand_1) (fun q1 => ?_)
  refine S.of1 (pc2 := 5) (L2 := [some (.ref 27), some (.int v1), some (.int q1), none]) (fun Q => g_istore_n d_Pa_readOperand_4 (Nat.le_of_ble_eq_true rfl) rfl) ?_
  refine S.of1 (pc2 := 6) (fun Q => g_iload_n d_Pa_readOperand_5 rfl) ?_
  refine S.br (c := 0 ≤ q1) (t := 13) (e := 9) (fun Q kt kf => g_if_ge d_Pa_readOperand_6 rfl kt kf) (fun h2 => ?_) (fun h2 => ?_)
  · refine S.of1 (pc2 := 15) (fun Q => g_ldcs rfl d_Pa_readOperand_13) ?_
    refine S.of1 (pc2 := 16) (fun Q => g_iload_n d_Pa_readOperand_15 rfl) ?_
    refine S.of1 (pc2 := 17) (fun Q => g_i2c d_Pa_readOperand_16) ?_
    refine S.call_rI (pc3 := 20) rfl (c_JS_indexOf (d - 1) (by omega) ((q1.toUInt32 % 65536).toInt32) σ) (fun Q => g_callVS (M2 := m_JS_indexOf) (vs := [.int ((q1.toUInt32 % 65536).toInt32)]) (st := []) lv_RX6_85 rfl rfl (Nat.le_of_ble_eq_true rfl) (by omega) (Nat.le_of_ble_eq_true rfl) rfl d_Pa_readOperand_17) (fun q3 => ?_)
    exact S.wk (L2 := [some (.ref 27), some (.int v1), some (.int q1), none]) (And.intro rfl (And.intro rfl (And.intro rfl trivial))) (s_Pa_readOperand_j20 D hD kreadRank hkreadRank kreadOperand hkreadOperand d hd v1 q1 q3 σ)
  · refine S.of1 (pc2 := 10) (fun Q => g_iconst (v := (-1 : Int32)) d_Pa_readOperand_9 (by decide)) ?_
    refine S.of1 (pc2 := 20) (fun Q => g_goto d_Pa_readOperand_10 rfl) ?_
    exact S.wk (L2 := [some (.ref 27), some (.int v1), some (.int q1), none]) (And.intro rfl (And.intro rfl (And.intro rfl trivial))) (s_Pa_readOperand_j20 D hD kreadRank hkreadRank kreadOperand hkreadOperand d hd v1 q1 (-1 : Int32) σ)
def f_Pa_rr : Nat → Bool → Int32 → Int32 → gS → Option gS
  | 0, _, _, _, _ => none
  | n + 1, true, v1, v2, σ => fo_Pa_readRank (fun v1 v2 σ => f_Pa_rr n true v1 v2 σ) (fun v1 σ => f_Pa_rr n false 0 v1 σ) v1 v2 σ
  | n + 1, false, _, v1, σ => fo_Pa_readOperand (fun v1 v2 σ => f_Pa_rr n true v1 v2 σ) (fun v1 σ => f_Pa_rr n false 0 v1 σ) v1 σ
theorem c_Pa_rr : ∀ (n d : Nat) (_ : 4 + 1 * n ≤ d), (∀ (v1 v2 : Int32) (σ : gS), C wV d m_Pa_readRank [.ref 27, .int v1, .int v2] σ (f_Pa_rr n true v1 v2 σ)) ∧ (∀ (v1 : Int32) (σ : gS), C wV d m_Pa_readOperand [.ref 27, .int v1] σ (f_Pa_rr n false 0 v1 σ)) := by
  intro n
  induction n with
  | zero =>
    intro d hd
    constructor <;> intros <;> unfold f_Pa_rr <;> intro a Q h1 _ <;> cases h1
  | succ n ih =>
    intro d hd
    constructor
    · intro v1 v2 σ
      unfold f_Pa_rr
      exact co_Pa_readRank (4 + 1 * n) (by omega) _ (fun d hd v1 v2 σ => (ih d hd).1 v1 v2 σ) _ (fun d hd v1 σ => (ih d hd).2 v1 σ) d (by omega) v1 v2 σ
    · intro v1 σ
      unfold f_Pa_rr
      exact co_Pa_readOperand (4 + 1 * n) (by omega) _ (fun d hd v1 v2 σ => (ih d hd).1 v1 v2 σ) _ (fun d hd v1 σ => (ih d hd).2 v1 σ) d (by omega) v1 σ
def f_Pa_readRank (n : Nat) (v1 v2 : Int32) (σ : gS) : Option gS := f_Pa_rr n true v1 v2 σ
theorem c_Pa_readRank (n d : Nat) (hd : 4 + 1 * n ≤ d) (v1 v2 : Int32) (σ : gS) : C wV d m_Pa_readRank [.ref 27, .int v1, .int v2] σ (f_Pa_readRank n v1 v2 σ) := (c_Pa_rr n d hd).1 v1 v2 σ
def f_Pa_readOperand (n : Nat) (v1 : Int32) (σ : gS) : Option gS := f_Pa_rr n false 0 v1 σ
theorem c_Pa_readOperand (n d : Nat) (hd : 4 + 1 * n ≤ d) (v1 : Int32) (σ : gS) : C wV d m_Pa_readOperand [.ref 27, .int v1] σ (f_Pa_readOperand n v1 σ) := (c_Pa_rr n d hd).2 v1 σ
def f_Pa_readLine_j52 (σ : gS) : Option gS :=
  (f_Pa_emit (6 : Int32) (0 : Int32) σ).bind fun s4 => some s4
theorem s_Pa_readLine_j52 (d : Nat) (hd : 65 ≤ d) (σ : gS) : S wV m_Pa_readLine d 52 [some (.ref 27), none] [] σ (f_Pa_readLine_j52 σ) := by
  unfold f_Pa_readLine_j52
  refine S.of1 (pc2 := 53) (fun Q => g_aload_n d_Pa_readLine_52 rfl) ?_
  refine S.of1 (pc2 := 55) (fun Q => g_bipush (v := (6 : Int32)) d_Pa_readLine_53 (by decide)) ?_
  refine S.of1 (pc2 := 56) (fun Q => g_iconst (v := (0 : Int32)) d_Pa_readLine_55 (by decide)) ?_
  refine S.call_wV (pc3 := 59) rfl (c_Pa_emit (d - 1) (by omega) (6 : Int32) (0 : Int32) σ) (fun Q => g_callV (M2 := m_Pa_emit) (vs := [.int (6 : Int32), .int (0 : Int32)]) (st := []) lv_RX6_64 gk_27 rfl rfl (Nat.le_of_ble_eq_true rfl) (by omega) (Nat.le_of_ble_eq_true rfl) rfl d_Pa_readLine_56) (fun s4 => ?_)
  exact S.ret (fun Q hq => g_vret rfl d_Pa_readLine_59 hq)
def f_Pa_readLine (σ : gS) : Option gS :=
  (f_Pa_readRank 60 (0 : Int32) (0 : Int32) σ).bind fun s1 => (f_Pa_meets (63 : Int32) s1).bind fun q2 => if q2.1 = 0 then f_Pa_readLine_j52 q2.2 else (f_Pa_emit (5 : Int32) (0 : Int32) q2.2).bind fun s5 => (f_Pa_readRank 60 (0 : Int32) (0 : Int32) s5).bind fun s6 => (f_T_within (q2.2.1 27 4) (128 : Int32)).bind fun q7 => if q7 = 0 then f_Pa_readLine_j52 s6 else if gix (q2.2.1 27 4) 128 then gup (gpi s6 30 (q2.2.1 27 4).toNatClampNeg (s6.1 27 4)) fun s10 => f_Pa_readLine_j52 s10 else none
theorem c_Pa_readLine (d : Nat) (hd : 65 ≤ d) (σ : gS) : C wV d m_Pa_readLine [.ref 27] σ (f_Pa_readLine σ) := by
  unfold f_Pa_readLine
  refine C.of (by decide +kernel) (Nat.le_of_ble_eq_true rfl) (L := [some (.ref 27), none]) rfl ?_
  refine S.of1 (pc2 := 1) (fun Q => g_aload_n d_Pa_readLine_0 rfl) ?_
  refine S.of1 (pc2 := 2) (fun Q => g_iconst (v := (0 : Int32)) d_Pa_readLine_1 (by decide)) ?_
  refine S.of1 (pc2 := 3) (fun Q => g_iconst (v := (0 : Int32)) d_Pa_readLine_2 (by decide)) ?_
  refine S.call_wV (pc3 := 6) rfl (c_Pa_readRank 60 (d - 1) (by omega) (0 : Int32) (0 : Int32) σ) (fun Q => g_callV (M2 := m_Pa_readRank) (vs := [.int (0 : Int32), .int (0 : Int32)]) (st := []) lv_RX6_60 gk_27 rfl rfl (Nat.le_of_ble_eq_true rfl) (by omega) (Nat.le_of_ble_eq_true rfl) rfl d_Pa_readLine_3) (fun s1 => ?_)
  refine S.of1 (pc2 := 7) (fun Q => g_aload_n d_Pa_readLine_6 rfl) ?_
  refine S.of1 (pc2 := 9) (fun Q => g_bipush (v := (63 : Int32)) d_Pa_readLine_7 (by decide)) ?_
  refine S.call_wI (pc3 := 12) rfl (c_Pa_meets (d - 1) (by omega) (63 : Int32) s1) (fun Q => g_callV (M2 := m_Pa_meets) (vs := [.int (63 : Int32)]) (st := []) lv_RX6_43 gk_27 rfl rfl (Nat.le_of_ble_eq_true rfl) (by omega) (Nat.le_of_ble_eq_true rfl) rfl d_Pa_readLine_9) (fun q2 => ?_)
  refine S.br (c := q2.1 = 0) (t := 52) (e := 15) (fun Q kt kf => g_if_eq d_Pa_readLine_12 rfl kt kf) (fun h3 => ?_) (fun h3 => ?_)
  · exact S.wk (L2 := [some (.ref 27), none]) (And.intro rfl trivial) (s_Pa_readLine_j52 d hd q2.2)
  · refine S.of1 (pc2 := 16) (fun Q => g_aload_n d_Pa_readLine_15 rfl) ?_
    refine S.of1 (pc2 := 19) (fun Q => g_geti fl_RX6_27 gc_27_4 d_Pa_readLine_16) ?_
    refine S.of1 (pc2 := 20) (L2 := [some (.ref 27), some (.int (q2.2.1 27 4))]) (fun Q => g_istore_n d_Pa_readLine_19 (Nat.le_of_ble_eq_true rfl) rfl) ?_
    refine S.of1 (pc2 := 21) (fun Q => g_aload_n d_Pa_readLine_20 rfl) ?_
    refine S.of1 (pc2 := 22) (fun Q => g_iconst (v := (5 : Int32)) d_Pa_readLine_21 (by decide)) ?_
    refine S.of1 (pc2 := 23) (fun Q => g_iconst (v := (0 : Int32)) d_Pa_readLine_22 (by decide)) ?_
    refine S.call_wV (pc3 := 26) rfl (c_Pa_emit (d - 1) (by omega) (5 : Int32) (0 : Int32) q2.2) (fun Q => g_callV (M2 := m_Pa_emit) (vs := [.int (5 : Int32), .int (0 : Int32)]) (st := []) lv_RX6_64 gk_27 rfl rfl (Nat.le_of_ble_eq_true rfl) (by omega) (Nat.le_of_ble_eq_true rfl) rfl d_Pa_readLine_23) (fun s5 => ?_)
    refine S.of1 (pc2 := 27) (fun Q => g_aload_n d_Pa_readLine_26 rfl) ?_
    refine S.of1 (pc2 := 28) (fun Q => g_iconst (v := (0 : Int32)) d_Pa_readLine_27 (by decide)) ?_
    refine S.of1 (pc2 := 29) (fun Q => g_iconst (v := (0 : Int32)) d_Pa_readLine_28 (by decide)) ?_
    refine S.call_wV (pc3 := 32) rfl (c_Pa_readRank 60 (d - 1) (by omega) (0 : Int32) (0 : Int32) s5) (fun Q => g_callV (M2 := m_Pa_readRank) (vs := [.int (0 : Int32), .int (0 : Int32)]) (st := []) lv_RX6_60 gk_27 rfl rfl (Nat.le_of_ble_eq_true rfl) (by omega) (Nat.le_of_ble_eq_true rfl) rfl d_Pa_readLine_29) (fun s6 => ?_)
    refine S.of1 (pc2 := 33) (fun Q => g_iload_n d_Pa_readLine_32 rfl) ?_
    refine S.of1 (pc2 := 36) (fun Q => g_sipush (v := (128 : Int32)) d_Pa_readLine_33 (by decide)) ?_
    refine S.call_rI (pc3 := 39) rfl (c_T_within (d - 1) (by omega) (q2.2.1 27 4) (128 : Int32) s6) (fun Q => g_callSN (M2 := m_T_within) (vs := [.int (q2.2.1 27 4), .int (128 : Int32)]) (st := []) ln_RX6_67 rfl (Nat.le_of_ble_eq_true rfl) (by omega) (Nat.le_of_ble_eq_true rfl) rfl d_Pa_readLine_36) (fun q7 => ?_)
    refine S.br (c := q7 = 0) (t := 52) (e := 42) (fun Q kt kf => g_if_eq d_Pa_readLine_39 rfl kt kf) (fun h8 => ?_) (fun h8 => ?_)
    · exact S.wk (L2 := [some (.ref 27), none]) (And.intro rfl trivial) (s_Pa_readLine_j52 d hd s6)
    · refine S.of1 (pc2 := 43) (fun Q => g_aload_n d_Pa_readLine_42 rfl) ?_
      refine S.of1 (pc2 := 46) (fun Q => g_getr fl_RX6_20 gc_27_2 d_Pa_readLine_43) ?_
      refine S.of1 (pc2 := 47) (fun Q => g_iload_n d_Pa_readLine_46 rfl) ?_
      refine S.of1 (pc2 := 48) (fun Q => g_aload_n d_Pa_readLine_47 rfl) ?_
      refine S.of1 (pc2 := 51) (fun Q => g_geti fl_RX6_27 gc_27_4 d_Pa_readLine_48) ?_
      refine S.chk (fun h9 => ?_)
      refine S.of1 (pc2 := 52) (fun Q => g_iast ga_30 (gix_in h9) d_Pa_readLine_51) ?_
      refine S.gup (fun s10 => ?_)
      exact S.wk (L2 := [some (.ref 27), none]) (And.intro rfl trivial) (s_Pa_readLine_j52 d hd s10)
def f_Pa_readInto_j66 (σ : gS) : Option (Int32 × gS) :=
  gup (gpi σ 27 3 (0 : Int32)) fun s8 => if (s8.1 27 6) = (-1 : Int32) then if gcpy (0 : Int32) (0 : Int32) (s8.1 27 4) 128 128 then gup (gsi s8 7 (va_cpy (s8.1 29) (s8.1 7) (0 : Int32).toNatClampNeg (0 : Int32).toNatClampNeg (s8.1 27 4).toNatClampNeg)) fun s11 => if gcpy (0 : Int32) (0 : Int32) (s11.1 27 4) 128 128 then gup (gsi s11 8 (va_cpy (s11.1 30) (s11.1 8) (0 : Int32).toNatClampNeg (0 : Int32).toNatClampNeg (s11.1 27 4).toNatClampNeg)) fun s13 => gup (gpi s13 6 4 (s13.1 27 4)) fun s14 => if gzb (s14.1 27 7) then gup (gpi s14 6 5 (s14.1 27 7)) fun s16 => some ((s16.1 27 6), s16) else none else none else none else some ((s8.1 27 6), s8)
theorem s_Pa_readInto_j66 (d : Nat) (hd : 66 ≤ d) (σ : gS) : S wI m_Pa_readInto d 66 [some (.ref 27), some (.ref 6), none] [] σ (f_Pa_readInto_j66 σ) := by
  unfold f_Pa_readInto_j66
  refine S.of1 (pc2 := 67) (fun Q => g_aload_n d_Pa_readInto_66 rfl) ?_
  refine S.of1 (pc2 := 68) (fun Q => g_iconst (v := (0 : Int32)) d_Pa_readInto_67 (by decide)) ?_
  refine S.of1 (pc2 := 71) (fun Q => g_puti fl_RX6_23 gc_27_3 rfl rfl d_Pa_readInto_68) ?_
  refine S.gup (fun s8 => ?_)
  refine S.of1 (pc2 := 72) (fun Q => g_aload_n d_Pa_readInto_71 rfl) ?_
  refine S.of1 (pc2 := 75) (fun Q => g_geti fl_RX6_33 gc_27_6 d_Pa_readInto_72) ?_
  refine S.of1 (pc2 := 76) (fun Q => g_iconst (v := (-1 : Int32)) d_Pa_readInto_75 (by decide)) ?_
  refine S.br (c := (s8.1 27 6) = (-1 : Int32)) (t := 79) (e := 129) (fun Q kt kf => g_icmp_ne d_Pa_readInto_76 rfl kf kt) (fun h9 => ?_) (fun h9 => ?_)
  · refine S.of1 (pc2 := 80) (fun Q => g_aload_n d_Pa_readInto_79 rfl) ?_
    refine S.of1 (pc2 := 83) (fun Q => g_getr fl_RX6_17 gc_27_1 d_Pa_readInto_80) ?_
    refine S.of1 (pc2 := 84) (fun Q => g_iconst (v := (0 : Int32)) d_Pa_readInto_83 (by decide)) ?_
    refine S.of1 (pc2 := 85) (fun Q => g_aload_n d_Pa_readInto_84 rfl) ?_
    refine S.of1 (pc2 := 88) (fun Q => g_getr fl_RX6_50 gc_6_0 d_Pa_readInto_85) ?_
    refine S.of1 (pc2 := 89) (fun Q => g_iconst (v := (0 : Int32)) d_Pa_readInto_88 (by decide)) ?_
    refine S.of1 (pc2 := 90) (fun Q => g_aload_n d_Pa_readInto_89 rfl) ?_
    refine S.of1 (pc2 := 93) (fun Q => g_geti fl_RX6_27 gc_27_4 d_Pa_readInto_90) ?_
    refine S.chk (fun h10 => ?_)
    refine S.of1 (pc2 := 96) (fun Q => g_copyi w_676 gMcp_ok ga_29 ga_7 (gcpy1 h10) (gcpy2 h10) (gcpy3 h10) (gcpy4 h10) (gcpy5 h10) (by omega) (Nat.le_of_ble_eq_true rfl) d_Pa_readInto_93) ?_
    refine S.gup (fun s11 => ?_)
    refine S.of1 (pc2 := 97) (fun Q => g_aload_n d_Pa_readInto_96 rfl) ?_
    refine S.of1 (pc2 := 100) (fun Q => g_getr fl_RX6_20 gc_27_2 d_Pa_readInto_97) ?_
    refine S.of1 (pc2 := 101) (fun Q => g_iconst (v := (0 : Int32)) d_Pa_readInto_100 (by decide)) ?_
    refine S.of1 (pc2 := 102) (fun Q => g_aload_n d_Pa_readInto_101 rfl) ?_
    refine S.of1 (pc2 := 105) (fun Q => g_getr fl_RX6_57 gc_6_1 d_Pa_readInto_102) ?_
    refine S.of1 (pc2 := 106) (fun Q => g_iconst (v := (0 : Int32)) d_Pa_readInto_105 (by decide)) ?_
    refine S.of1 (pc2 := 107) (fun Q => g_aload_n d_Pa_readInto_106 rfl) ?_
    refine S.of1 (pc2 := 110) (fun Q => g_geti fl_RX6_27 gc_27_4 d_Pa_readInto_107) ?_
    refine S.chk (fun h12 => ?_)
    refine S.of1 (pc2 := 113) (fun Q => g_copyi w_676 gMcp_ok ga_30 ga_8 (gcpy1 h12) (gcpy2 h12) (gcpy3 h12) (gcpy4 h12) (gcpy5 h12) (by omega) (Nat.le_of_ble_eq_true rfl) d_Pa_readInto_110) ?_
    refine S.gup (fun s13 => ?_)
    refine S.of1 (pc2 := 114) (fun Q => g_aload_n d_Pa_readInto_113 rfl) ?_
    refine S.of1 (pc2 := 115) (fun Q => g_aload_n d_Pa_readInto_114 rfl) ?_
    refine S.of1 (pc2 := 118) (fun Q => g_geti fl_RX6_27 gc_27_4 d_Pa_readInto_115) ?_
    refine S.of1 (pc2 := 121) (fun Q => g_puti fl_RX6_58 gc_6_4 rfl rfl d_Pa_readInto_118) ?_
    refine S.gup (fun s14 => ?_)
    refine S.of1 (pc2 := 122) (fun Q => g_aload_n d_Pa_readInto_121 rfl) ?_
    refine S.of1 (pc2 := 123) (fun Q => g_aload_n d_Pa_readInto_122 rfl) ?_
    refine S.of1 (pc2 := 126) (fun Q => g_geti fl_RX6_36 gc_27_7 d_Pa_readInto_123) ?_
    refine S.chk (fun h15 => ?_)
    refine S.of1 (pc2 := 129) (fun Q => g_puti fl_RX6_59 gc_6_5 (gzb_n h15) h15 d_Pa_readInto_126) ?_
    refine S.gup (fun s16 => ?_)
    refine S.of1 (pc2 := 130) (fun Q => g_aload_n d_Pa_readInto_129 rfl) ?_
    refine S.of1 (pc2 := 133) (fun Q => g_geti fl_RX6_33 gc_27_6 d_Pa_readInto_130) ?_
    exact S.ret (fun Q hq => g_iret rfl d_Pa_readInto_133 hq)
  · refine S.of1 (pc2 := 130) (fun Q => g_aload_n d_Pa_readInto_129 rfl) ?_
    refine S.of1 (pc2 := 133) (fun Q => g_geti fl_RX6_33 gc_27_6 d_Pa_readInto_130) ?_
    exact S.ret (fun Q hq => g_iret rfl d_Pa_readInto_133 hq)
def f_Pa_readInto_j51 (σ : gS) : Option (Int32 × gS) :=
  if (σ.1 27 3) ≤ (σ.1 27 5) then f_Pa_readInto_j66 σ else (f_Pa_refuse σ).bind fun s17 => f_Pa_readInto_j66 s17
theorem s_Pa_readInto_j51 (d : Nat) (hd : 66 ≤ d) (σ : gS) : S wI m_Pa_readInto d 51 [some (.ref 27), some (.ref 6), none] [] σ (f_Pa_readInto_j51 σ) := by
  unfold f_Pa_readInto_j51
  refine S.of1 (pc2 := 52) (fun Q => g_aload_n d_Pa_readInto_51 rfl) ?_
  refine S.of1 (pc2 := 55) (fun Q => g_geti fl_RX6_30 gc_27_5 d_Pa_readInto_52) ?_
  refine S.of1 (pc2 := 56) (fun Q => g_aload_n d_Pa_readInto_55 rfl) ?_
  refine S.of1 (pc2 := 59) (fun Q => g_geti fl_RX6_23 gc_27_3 d_Pa_readInto_56) ?_
  refine S.br (c := (σ.1 27 3) ≤ (σ.1 27 5)) (t := 66) (e := 62) (fun Q kt kf => g_icmp_ge d_Pa_readInto_59 rfl kt kf) (fun h7 => ?_) (fun h7 => ?_)
  · exact S.wk (L2 := [some (.ref 27), some (.ref 6), none]) (And.intro rfl (And.intro rfl trivial)) (s_Pa_readInto_j66 d hd σ)
  · refine S.of1 (pc2 := 63) (fun Q => g_aload_n d_Pa_readInto_62 rfl) ?_
    refine S.call_wV (pc3 := 66) rfl (c_Pa_refuse (d - 1) (by omega) σ) (fun Q => g_callV (M2 := m_Pa_refuse) (vs := []) (st := []) lv_RX6_47 gk_27 rfl rfl (Nat.le_of_ble_eq_true rfl) (by omega) (Nat.le_of_ble_eq_true rfl) rfl d_Pa_readInto_63) (fun s17 => ?_)
    exact S.wk (L2 := [some (.ref 27), some (.ref 6), none]) (And.intro rfl (And.intro rfl trivial)) (s_Pa_readInto_j66 d hd s17)
def f_Pa_readInto_L26 : Nat → Int32 → gS → Option (Int32 × gS)
  | 0, _, _ => none
  | n + 1, v2, σ =>
  if (120 : Int32) ≤ v2 then f_Pa_readInto_j51 σ else (f_Pa_meets (59 : Int32) σ).bind fun q18 => if q18.1 = 0 then f_Pa_readInto_j51 q18.2 else (f_Pa_readLine q18.2).bind fun s20 => (fun v2 σ => f_Pa_readInto_L26 n v2 σ) (v2 + (1 : Int32)) s20
theorem s_Pa_readInto_L26 (d : Nat) (hd : 66 ≤ d) : ∀ (n : Nat) (v2 : Int32) (σ : gS), S wI m_Pa_readInto d 26 [some (.ref 27), some (.ref 6), some (.int v2)] [] σ (f_Pa_readInto_L26 n v2 σ) := by
  intro n
  induction n with
  | zero =>
    intros
    unfold f_Pa_readInto_L26
    exact S.no
  | succ n ih =>
    intro v2 σ
    unfold f_Pa_readInto_L26
    refine S.of1 (pc2 := 27) (fun Q => g_iload_n d_Pa_readInto_26 rfl) ?_
    refine S.of1 (pc2 := 29) (fun Q => g_bipush (v := (120 : Int32)) d_Pa_readInto_27 (by decide)) ?_
    refine S.br (c := (120 : Int32) ≤ v2) (t := 51) (e := 32) (fun Q kt kf => g_icmp_ge d_Pa_readInto_29 rfl kt kf) (fun h6 => ?_) (fun h6 => ?_)
    · exact S.wk (L2 := [some (.ref 27), some (.ref 6), none]) (And.intro rfl (And.intro rfl trivial)) (s_Pa_readInto_j51 d hd σ)
    · refine S.of1 (pc2 := 33) (fun Q => g_aload_n d_Pa_readInto_32 rfl) ?_
      refine S.of1 (pc2 := 35) (fun Q => g_bipush (v := (59 : Int32)) d_Pa_readInto_33 (by decide)) ?_
      refine S.call_wI (pc3 := 38) rfl (c_Pa_meets (d - 1) (by omega) (59 : Int32) σ) (fun Q => g_callV (M2 := m_Pa_meets) (vs := [.int (59 : Int32)]) (st := []) lv_RX6_43 gk_27 rfl rfl (Nat.le_of_ble_eq_true rfl) (by omega) (Nat.le_of_ble_eq_true rfl) rfl d_Pa_readInto_35) (fun q18 => ?_)
      refine S.br (c := q18.1 = 0) (t := 51) (e := 41) (fun Q kt kf => g_if_eq d_Pa_readInto_38 rfl kt kf) (fun h19 => ?_) (fun h19 => ?_)
      · exact S.wk (L2 := [some (.ref 27), some (.ref 6), none]) (And.intro rfl (And.intro rfl trivial)) (s_Pa_readInto_j51 d hd q18.2)
      · refine S.of1 (pc2 := 42) (fun Q => g_aload_n d_Pa_readInto_41 rfl) ?_
        refine S.call_wV (pc3 := 45) rfl (c_Pa_readLine (d - 1) (by omega) q18.2) (fun Q => g_callV (M2 := m_Pa_readLine) (vs := []) (st := []) lv_RX6_40 gk_27 rfl rfl (Nat.le_of_ble_eq_true rfl) (by omega) (Nat.le_of_ble_eq_true rfl) rfl d_Pa_readInto_42) (fun s20 => ?_)
        refine S.of1 (pc2 := 48) (L2 := [some (.ref 27), some (.ref 6), some (.int (v2 + (1 : Int32)))]) (fun Q => g_iinc d_Pa_readInto_45 rfl (congrArg (fun z => v2 + z) (by decide)) (Nat.le_of_ble_eq_true rfl) rfl) ?_
        refine S.of1 (pc2 := 26) (fun Q => g_goto d_Pa_readInto_48 rfl) ?_
        exact S.wk (L2 := [some (.ref 27), some (.ref 6), some (.int (v2 + (1 : Int32)))]) (And.intro rfl (And.intro rfl (And.intro rfl trivial))) (ih (v2 + (1 : Int32)) s20)
def f_Pa_readInto (σ : gS) : Option (Int32 × gS) :=
  gup (gpi σ 27 4 (0 : Int32)) fun s1 => gup (gpi s1 27 5 (0 : Int32)) fun s2 => gup (gpi s2 27 6 (-1 : Int32)) fun s3 => gup (gpi s3 27 7 (0 : Int32)) fun s4 => (f_Pa_readLine s4).bind fun s5 => f_Pa_readInto_L26 gfu (0 : Int32) s5
theorem c_Pa_readInto (d : Nat) (hd : 66 ≤ d) (σ : gS) : C wI d m_Pa_readInto [.ref 27, .ref 6] σ (f_Pa_readInto σ) := by
  unfold f_Pa_readInto
  refine C.of (by decide +kernel) (Nat.le_of_ble_eq_true rfl) (L := [some (.ref 27), some (.ref 6), none]) rfl ?_
  refine S.of1 (pc2 := 1) (fun Q => g_aload_n d_Pa_readInto_0 rfl) ?_
  refine S.of1 (pc2 := 2) (fun Q => g_iconst (v := (0 : Int32)) d_Pa_readInto_1 (by decide)) ?_
  refine S.of1 (pc2 := 5) (fun Q => g_puti fl_RX6_27 gc_27_4 rfl rfl d_Pa_readInto_2) ?_
  refine S.gup (fun s1 => ?_)
  refine S.of1 (pc2 := 6) (fun Q => g_aload_n d_Pa_readInto_5 rfl) ?_
  refine S.of1 (pc2 := 7) (fun Q => g_iconst (v := (0 : Int32)) d_Pa_readInto_6 (by decide)) ?_
  refine S.of1 (pc2 := 10) (fun Q => g_puti fl_RX6_30 gc_27_5 rfl rfl d_Pa_readInto_7) ?_
  refine S.gup (fun s2 => ?_)
  refine S.of1 (pc2 := 11) (fun Q => g_aload_n d_Pa_readInto_10 rfl) ?_
  refine S.of1 (pc2 := 12) (fun Q => g_iconst (v := (-1 : Int32)) d_Pa_readInto_11 (by decide)) ?_
  refine S.of1 (pc2 := 15) (fun Q => g_puti fl_RX6_33 gc_27_6 rfl rfl d_Pa_readInto_12) ?_
  refine S.gup (fun s3 => ?_)
  refine S.of1 (pc2 := 16) (fun Q => g_aload_n d_Pa_readInto_15 rfl) ?_
  refine S.of1 (pc2 := 17) (fun Q => g_iconst (v := (0 : Int32)) d_Pa_readInto_16 (by decide)) ?_
  refine S.of1 (pc2 := 20) (fun Q => g_puti fl_RX6_36 gc_27_7 rfl rfl d_Pa_readInto_17) ?_
  refine S.gup (fun s4 => ?_)
  refine S.of1 (pc2 := 21) (fun Q => g_aload_n d_Pa_readInto_20 rfl) ?_
  refine S.call_wV (pc3 := 24) rfl (c_Pa_readLine (d - 1) (by omega) s4) (fun Q => g_callV (M2 := m_Pa_readLine) (vs := []) (st := []) lv_RX6_40 gk_27 rfl rfl (Nat.le_of_ble_eq_true rfl) (by omega) (Nat.le_of_ble_eq_true rfl) rfl d_Pa_readInto_21) (fun s5 => ?_)
  refine S.of1 (pc2 := 25) (fun Q => g_iconst (v := (0 : Int32)) d_Pa_readInto_24 (by decide)) ?_
  refine S.of1 (pc2 := 26) (L2 := [some (.ref 27), some (.ref 6), some (.int (0 : Int32))]) (fun Q => g_istore_n d_Pa_readInto_25 (Nat.le_of_ble_eq_true rfl) rfl) ?_
  exact S.wk (L2 := [some (.ref 27), some (.ref 6), some (.int (0 : Int32))]) (And.intro rfl (And.intro rfl (And.intro rfl trivial))) (s_Pa_readInto_L26 d hd gfu (0 : Int32) s5)
def f_T_law (σ : gS) : Option (Int32 × gS) :=
  (f_Pa_readInto σ).bind fun q1 => if 0 ≤ q1.1 then some (((-100 : Int32) - q1.1), q1.2) else some ((1 : Int32), q1.2)
theorem c_T_law (d : Nat) (hd : 67 ≤ d) (σ : gS) : C wI d m_T_law [.ref 0] σ (f_T_law σ) := by
  unfold f_T_law
  refine C.of (by decide +kernel) (Nat.le_of_ble_eq_true rfl) (L := [some (.ref 0), none]) rfl ?_
  refine S.of1 (pc2 := 1) (fun Q => g_aload_n d_T_law_0 rfl) ?_
  refine S.of1 (pc2 := 4) (fun Q => g_getr fl_RX10_33 gc_0_3 d_T_law_1) ?_
  refine S.of1 (pc2 := 5) (fun Q => g_aload_n d_T_law_4 rfl) ?_
  refine S.of1 (pc2 := 8) (fun Q => g_getr fl_RX10_10 gc_0_0 d_T_law_5) ?_
  refine S.of1 (pc2 := 11) (fun Q => g_getr fl_RX10_118 gc_1_4 d_T_law_8) ?_
  refine S.call_wI (pc3 := 14) rfl (c_Pa_readInto (d - 1) (by omega) σ) (fun Q => g_callV (M2 := m_Pa_readInto) (vs := [.ref 6]) (st := []) lv_RX10_122 gk_27 rfl rfl (Nat.le_of_ble_eq_true rfl) (by omega) (Nat.le_of_ble_eq_true rfl) rfl d_T_law_11) (fun q1 => ?_)
  refine S.of1 (pc2 := 15) (L2 := [some (.ref 0), some (.int q1.1)]) (fun Q => g_istore_n d_T_law_14 (Nat.le_of_ble_eq_true rfl) rfl) ?_
  refine S.of1 (pc2 := 16) (fun Q => g_iload_n d_T_law_15 rfl) ?_
  refine S.br (c := 0 ≤ q1.1) (t := 23) (e := 19) (fun Q kt kf => g_if_ge d_T_law_16 rfl kt kf) (fun h2 => ?_) (fun h2 => ?_)
  · refine S.of1 (pc2 := 25) (fun Q => g_bipush (v := (-100 : Int32)) d_T_law_23 (by decide)) ?_
    refine S.of1 (pc2 := 26) (fun Q => g_iload_n d_T_law_25 rfl) ?_
    refine S.of1 (pc2 := 27) (fun Q => g_isub d_T_law_26) ?_
    exact S.ret (fun Q hq => g_iret rfl d_T_law_27 hq)
  · refine S.of1 (pc2 := 20) (fun Q => g_iconst (v := (1 : Int32)) d_T_law_19 (by decide)) ?_
    refine S.of1 (pc2 := 27) (fun Q => g_goto d_T_law_20 rfl) ?_
    exact S.ret (fun Q hq => g_iret rfl d_T_law_27 hq)
def f_Law_joined_j100 : Option Int32 :=
  some (1 : Int32)
theorem s_Law_joined_j100 (d : Nat) (hd : 1 ≤ d) (σ : gS) : S (rI σ) m_Law_joined d 100 [none, none, none] [] σ (f_Law_joined_j100) := by
  unfold f_Law_joined_j100
  refine S.of1 (pc2 := 101) (fun Q => g_iconst (v := (1 : Int32)) d_Law_joined_100 (by decide)) ?_
  refine S.of1 (pc2 := 105) (fun Q => g_goto d_Law_joined_101 rfl) ?_
  exact S.ret (fun Q hq => g_iret rfl d_Law_joined_105 hq)
def f_Law_joined (v0 : Int32) (v1 : Int32) (v2 : Int32) : Option Int32 :=
  if v0 = (37 : Int32) then if v2 = 0 then some (0 : Int32) else if v2 = 0 then none else some (grem v1 v2) else if v0 = (38 : Int32) then if v1 = 0 then some (0 : Int32) else if v2 = 0 then some (0 : Int32) else some (1 : Int32) else if v0 = (42 : Int32) then some (v1 * v2) else if v0 = (43 : Int32) then some (v1 + v2) else if v0 = (45 : Int32) then some (v1 - v2) else if v0 = (47 : Int32) then if v2 = 0 then some (0 : Int32) else if v2 = 0 then none else some (v1 / v2) else if v0 = (60 : Int32) then if v2 ≤ v1 then some (0 : Int32) else some (1 : Int32) else if v0 = (61 : Int32) then if v1 = v2 then some (1 : Int32) else some (0 : Int32) else if v0 = (62 : Int32) then if v1 ≤ v2 then some (0 : Int32) else some (1 : Int32) else if v0 = (124 : Int32) then if v1 = 0 then if v2 = 0 then some (0 : Int32) else f_Law_joined_j100 else f_Law_joined_j100 else some (0 : Int32)
theorem c_Law_joined (d : Nat) (hd : 1 ≤ d) (v0 : Int32) (v1 : Int32) (v2 : Int32) (σ : gS) : C (rI σ) d m_Law_joined [.int v0, .int v1, .int v2] σ (f_Law_joined v0 v1 v2) := by
  unfold f_Law_joined
  refine C.of (by decide +kernel) (Nat.le_of_ble_eq_true rfl) (L := [some (.int v0), some (.int v1), some (.int v2)]) rfl ?_
  refine S.of1 (pc2 := 1) (fun Q => g_iload_n d_Law_joined_0 rfl) ?_
  refine S.cs (c := v0 = (37 : Int32)) (fun h1 => ?_) (fun h1 => ?_)
  · refine S.of1 (pc2 := 177) (fun Q => g_lookup (off := 176) d_Law_joined_1 (by decide) (by rw [h1]; decide) rfl) ?_
    refine S.of1 (pc2 := 178) (fun Q => g_iload_n d_Law_joined_177 rfl) ?_
    refine S.br (c := v2 = 0) (t := 181) (e := 185) (fun Q kt kf => g_if_ne d_Law_joined_178 rfl kf kt) (fun h2 => ?_) (fun h2 => ?_)
    · refine S.of1 (pc2 := 182) (fun Q => g_iconst (v := (0 : Int32)) d_Law_joined_181 (by decide)) ?_
      refine S.of1 (pc2 := 188) (fun Q => g_goto d_Law_joined_182 rfl) ?_
      exact S.ret (fun Q hq => g_iret rfl d_Law_joined_188 hq)
    · refine S.of1 (pc2 := 186) (fun Q => g_iload_n d_Law_joined_185 rfl) ?_
      refine S.of1 (pc2 := 187) (fun Q => g_iload_n d_Law_joined_186 rfl) ?_
      refine S.nz (fun h3 => ?_)
      refine S.of1 (pc2 := 188) (fun Q => g_irem d_Law_joined_187 h3) ?_
      exact S.ret (fun Q hq => g_iret rfl d_Law_joined_188 hq)
  · refine S.cs (c := v0 = (38 : Int32)) (fun h4 => ?_) (fun h4 => ?_)
    · refine S.of1 (pc2 := 106) (fun Q => g_lookup (off := 105) d_Law_joined_1 (by decide) (by rw [h4]; decide) rfl) ?_
      refine S.of1 (pc2 := 107) (fun Q => g_iload_n d_Law_joined_106 rfl) ?_
      refine S.br (c := v1 = 0) (t := 118) (e := 110) (fun Q kt kf => g_if_eq d_Law_joined_107 rfl kt kf) (fun h5 => ?_) (fun h5 => ?_)
      · refine S.of1 (pc2 := 119) (fun Q => g_iconst (v := (0 : Int32)) d_Law_joined_118 (by decide)) ?_
        exact S.ret (fun Q hq => g_iret rfl d_Law_joined_119 hq)
      · refine S.of1 (pc2 := 111) (fun Q => g_iload_n d_Law_joined_110 rfl) ?_
        refine S.br (c := v2 = 0) (t := 118) (e := 114) (fun Q kt kf => g_if_eq d_Law_joined_111 rfl kt kf) (fun h6 => ?_) (fun h6 => ?_)
        · refine S.of1 (pc2 := 119) (fun Q => g_iconst (v := (0 : Int32)) d_Law_joined_118 (by decide)) ?_
          exact S.ret (fun Q hq => g_iret rfl d_Law_joined_119 hq)
        · refine S.of1 (pc2 := 115) (fun Q => g_iconst (v := (1 : Int32)) d_Law_joined_114 (by decide)) ?_
          refine S.of1 (pc2 := 119) (fun Q => g_goto d_Law_joined_115 rfl) ?_
          exact S.ret (fun Q hq => g_iret rfl d_Law_joined_119 hq)
    · refine S.cs (c := v0 = (42 : Int32)) (fun h7 => ?_) (fun h7 => ?_)
      · refine S.of1 (pc2 := 161) (fun Q => g_lookup (off := 160) d_Law_joined_1 (by decide) (by rw [h7]; decide) rfl) ?_
        refine S.of1 (pc2 := 162) (fun Q => g_iload_n d_Law_joined_161 rfl) ?_
        refine S.of1 (pc2 := 163) (fun Q => g_iload_n d_Law_joined_162 rfl) ?_
        refine S.of1 (pc2 := 164) (fun Q => g_imul d_Law_joined_163) ?_
        exact S.ret (fun Q hq => g_iret rfl d_Law_joined_164 hq)
      · refine S.cs (c := v0 = (43 : Int32)) (fun h8 => ?_) (fun h8 => ?_)
        · refine S.of1 (pc2 := 153) (fun Q => g_lookup (off := 152) d_Law_joined_1 (by decide) (by rw [h8]; decide) rfl) ?_
          refine S.of1 (pc2 := 154) (fun Q => g_iload_n d_Law_joined_153 rfl) ?_
          refine S.of1 (pc2 := 155) (fun Q => g_iload_n d_Law_joined_154 rfl) ?_
          refine S.of1 (pc2 := 156) (fun Q => g_iadd d_Law_joined_155) ?_
          exact S.ret (fun Q hq => g_iret rfl d_Law_joined_156 hq)
        · refine S.cs (c := v0 = (45 : Int32)) (fun h9 => ?_) (fun h9 => ?_)
          · refine S.of1 (pc2 := 157) (fun Q => g_lookup (off := 156) d_Law_joined_1 (by decide) (by rw [h9]; decide) rfl) ?_
            refine S.of1 (pc2 := 158) (fun Q => g_iload_n d_Law_joined_157 rfl) ?_
            refine S.of1 (pc2 := 159) (fun Q => g_iload_n d_Law_joined_158 rfl) ?_
            refine S.of1 (pc2 := 160) (fun Q => g_isub d_Law_joined_159) ?_
            exact S.ret (fun Q hq => g_iret rfl d_Law_joined_160 hq)
          · refine S.cs (c := v0 = (47 : Int32)) (fun h10 => ?_) (fun h10 => ?_)
            · refine S.of1 (pc2 := 165) (fun Q => g_lookup (off := 164) d_Law_joined_1 (by decide) (by rw [h10]; decide) rfl) ?_
              refine S.of1 (pc2 := 166) (fun Q => g_iload_n d_Law_joined_165 rfl) ?_
              refine S.br (c := v2 = 0) (t := 169) (e := 173) (fun Q kt kf => g_if_ne d_Law_joined_166 rfl kf kt) (fun h11 => ?_) (fun h11 => ?_)
              · refine S.of1 (pc2 := 170) (fun Q => g_iconst (v := (0 : Int32)) d_Law_joined_169 (by decide)) ?_
                refine S.of1 (pc2 := 176) (fun Q => g_goto d_Law_joined_170 rfl) ?_
                exact S.ret (fun Q hq => g_iret rfl d_Law_joined_176 hq)
              · refine S.of1 (pc2 := 174) (fun Q => g_iload_n d_Law_joined_173 rfl) ?_
                refine S.of1 (pc2 := 175) (fun Q => g_iload_n d_Law_joined_174 rfl) ?_
                refine S.nz (fun h12 => ?_)
                refine S.of1 (pc2 := 176) (fun Q => g_idiv d_Law_joined_175 h12) ?_
                exact S.ret (fun Q hq => g_iret rfl d_Law_joined_176 hq)
            · refine S.cs (c := v0 = (60 : Int32)) (fun h13 => ?_) (fun h13 => ?_)
              · refine S.of1 (pc2 := 120) (fun Q => g_lookup (off := 119) d_Law_joined_1 (by decide) (by rw [h13]; decide) rfl) ?_
                refine S.of1 (pc2 := 121) (fun Q => g_iload_n d_Law_joined_120 rfl) ?_
                refine S.of1 (pc2 := 122) (fun Q => g_iload_n d_Law_joined_121 rfl) ?_
                refine S.br (c := v2 ≤ v1) (t := 129) (e := 125) (fun Q kt kf => g_icmp_ge d_Law_joined_122 rfl kt kf) (fun h14 => ?_) (fun h14 => ?_)
                · refine S.of1 (pc2 := 130) (fun Q => g_iconst (v := (0 : Int32)) d_Law_joined_129 (by decide)) ?_
                  exact S.ret (fun Q hq => g_iret rfl d_Law_joined_130 hq)
                · refine S.of1 (pc2 := 126) (fun Q => g_iconst (v := (1 : Int32)) d_Law_joined_125 (by decide)) ?_
                  refine S.of1 (pc2 := 130) (fun Q => g_goto d_Law_joined_126 rfl) ?_
                  exact S.ret (fun Q hq => g_iret rfl d_Law_joined_130 hq)
              · refine S.cs (c := v0 = (61 : Int32)) (fun h15 => ?_) (fun h15 => ?_)
                · refine S.of1 (pc2 := 131) (fun Q => g_lookup (off := 130) d_Law_joined_1 (by decide) (by rw [h15]; decide) rfl) ?_
                  refine S.of1 (pc2 := 132) (fun Q => g_iload_n d_Law_joined_131 rfl) ?_
                  refine S.of1 (pc2 := 133) (fun Q => g_iload_n d_Law_joined_132 rfl) ?_
                  refine S.br (c := v1 = v2) (t := 136) (e := 140) (fun Q kt kf => g_icmp_ne d_Law_joined_133 rfl kf kt) (fun h16 => ?_) (fun h16 => ?_)
                  · refine S.of1 (pc2 := 137) (fun Q => g_iconst (v := (1 : Int32)) d_Law_joined_136 (by decide)) ?_
                    refine S.of1 (pc2 := 141) (fun Q => g_goto d_Law_joined_137 rfl) ?_
                    exact S.ret (fun Q hq => g_iret rfl d_Law_joined_141 hq)
                  · refine S.of1 (pc2 := 141) (fun Q => g_iconst (v := (0 : Int32)) d_Law_joined_140 (by decide)) ?_
                    exact S.ret (fun Q hq => g_iret rfl d_Law_joined_141 hq)
                · refine S.cs (c := v0 = (62 : Int32)) (fun h17 => ?_) (fun h17 => ?_)
                  · refine S.of1 (pc2 := 142) (fun Q => g_lookup (off := 141) d_Law_joined_1 (by decide) (by rw [h17]; decide) rfl) ?_
                    refine S.of1 (pc2 := 143) (fun Q => g_iload_n d_Law_joined_142 rfl) ?_
                    refine S.of1 (pc2 := 144) (fun Q => g_iload_n d_Law_joined_143 rfl) ?_
                    refine S.br (c := v1 ≤ v2) (t := 151) (e := 147) (fun Q kt kf => g_icmp_le d_Law_joined_144 rfl kt kf) (fun h18 => ?_) (fun h18 => ?_)
                    · refine S.of1 (pc2 := 152) (fun Q => g_iconst (v := (0 : Int32)) d_Law_joined_151 (by decide)) ?_
                      exact S.ret (fun Q hq => g_iret rfl d_Law_joined_152 hq)
                    · refine S.of1 (pc2 := 148) (fun Q => g_iconst (v := (1 : Int32)) d_Law_joined_147 (by decide)) ?_
                      refine S.of1 (pc2 := 152) (fun Q => g_goto d_Law_joined_148 rfl) ?_
                      exact S.ret (fun Q hq => g_iret rfl d_Law_joined_152 hq)
                  · refine S.cs (c := v0 = (124 : Int32)) (fun h19 => ?_) (fun h19 => ?_)
                    · refine S.of1 (pc2 := 92) (fun Q => g_lookup (off := 91) d_Law_joined_1 (by decide) (by rw [h19]; decide) rfl) ?_
                      refine S.of1 (pc2 := 93) (fun Q => g_iload_n d_Law_joined_92 rfl) ?_
                      refine S.br (c := v1 = 0) (t := 96) (e := 100) (fun Q kt kf => g_if_ne d_Law_joined_93 rfl kf kt) (fun h20 => ?_) (fun h20 => ?_)
                      · refine S.of1 (pc2 := 97) (fun Q => g_iload_n d_Law_joined_96 rfl) ?_
                        refine S.br (c := v2 = 0) (t := 104) (e := 100) (fun Q kt kf => g_if_eq d_Law_joined_97 rfl kt kf) (fun h21 => ?_) (fun h21 => ?_)
                        · refine S.of1 (pc2 := 105) (fun Q => g_iconst (v := (0 : Int32)) d_Law_joined_104 (by decide)) ?_
                          exact S.ret (fun Q hq => g_iret rfl d_Law_joined_105 hq)
                        · exact S.wk (L2 := [none, none, none]) trivial (s_Law_joined_j100 d hd σ)
                      · exact S.wk (L2 := [none, none, none]) trivial (s_Law_joined_j100 d hd σ)
                    · refine S.of1 (pc2 := 189) (fun Q => g_lookup (off := 188) d_Law_joined_1 (by decide) (by show Op.lookupswitch.offset [(37, 176), (38, 105), (42, 160), (43, 152), (45, 156), (47, 164), (60, 119), (61, 130), (62, 141), (124, 91)] 188 v0.toInt = 188; rw [lv_osw h1 (by decide), lv_osw h4 (by decide), lv_osw h7 (by decide), lv_osw h8 (by decide), lv_osw h9 (by decide), lv_osw h10 (by decide), lv_osw h13 (by decide), lv_osw h15 (by decide), lv_osw h17 (by decide), lv_osw h19 (by decide)]; rfl) rfl) ?_
                      refine S.of1 (pc2 := 190) (fun Q => g_iconst (v := (0 : Int32)) d_Law_joined_189 (by decide)) ?_
                      exact S.ret (fun Q hq => g_iret rfl d_Law_joined_190 hq)
def f_Law_pop (σ : gS) : Option (Int32 × gS) :=
  if 0 < (σ.1 6 3) then gup (gpi σ 6 3 ((σ.1 6 3) - (1 : Int32))) fun s2 => if gix (s2.1 6 3) 128 then some ((s2.1 9 (s2.1 6 3).toNatClampNeg), s2) else none else some ((0 : Int32), σ)
theorem c_Law_pop (d : Nat) (hd : 1 ≤ d) (σ : gS) : C wI d m_Law_pop [.ref 6] σ (f_Law_pop σ) := by
  unfold f_Law_pop
  refine C.of (by decide +kernel) (Nat.le_of_ble_eq_true rfl) (L := [some (.ref 6)]) rfl ?_
  refine S.of1 (pc2 := 1) (fun Q => g_aload_n d_Law_pop_0 rfl) ?_
  refine S.of1 (pc2 := 4) (fun Q => g_geti fl_RX4_19 gc_6_3 d_Law_pop_1) ?_
  refine S.br (c := 0 < (σ.1 6 3)) (t := 9) (e := 7) (fun Q kt kf => g_if_gt d_Law_pop_4 rfl kt kf) (fun h1 => ?_) (fun h1 => ?_)
  · refine S.of1 (pc2 := 10) (fun Q => g_aload_n d_Law_pop_9 rfl) ?_
    refine S.of1 (pc2 := 11) (fun Q => g_dup d_Law_pop_10 rfl) ?_
    refine S.of1 (pc2 := 14) (fun Q => g_geti fl_RX4_19 gc_6_3 d_Law_pop_11) ?_
    refine S.of1 (pc2 := 15) (fun Q => g_iconst (v := (1 : Int32)) d_Law_pop_14 (by decide)) ?_
    refine S.of1 (pc2 := 16) (fun Q => g_isub d_Law_pop_15) ?_
    refine S.of1 (pc2 := 19) (fun Q => g_puti fl_RX4_19 gc_6_3 rfl rfl d_Law_pop_16) ?_
    refine S.gup (fun s2 => ?_)
    refine S.of1 (pc2 := 20) (fun Q => g_aload_n d_Law_pop_19 rfl) ?_
    refine S.of1 (pc2 := 23) (fun Q => g_getr fl_RX4_16 gc_6_2 d_Law_pop_20) ?_
    refine S.of1 (pc2 := 24) (fun Q => g_aload_n d_Law_pop_23 rfl) ?_
    refine S.of1 (pc2 := 27) (fun Q => g_geti fl_RX4_19 gc_6_3 d_Law_pop_24) ?_
    refine S.chk (fun h3 => ?_)
    refine S.of1 (pc2 := 28) (fun Q => g_iald ga_9 (gix_in h3) d_Law_pop_27) ?_
    exact S.ret (fun Q hq => g_iret rfl d_Law_pop_28 hq)
  · refine S.of1 (pc2 := 8) (fun Q => g_iconst (v := (0 : Int32)) d_Law_pop_7 (by decide)) ?_
    exact S.ret (fun Q hq => g_iret rfl d_Law_pop_8 hq)
def f_Law_push (v1 : Int32) (σ : gS) : Option gS :=
  if (128 : Int32) ≤ (σ.1 6 3) then some σ else if gix (σ.1 6 3) 128 then gup (gpi σ 9 (σ.1 6 3).toNatClampNeg v1) fun s3 => gup (gpi s3 6 3 ((s3.1 6 3) + (1 : Int32))) fun s4 => some s4 else none
theorem c_Law_push (d : Nat) (hd : 1 ≤ d) (v1 : Int32) (σ : gS) : C wV d m_Law_push [.ref 6, .int v1] σ (f_Law_push v1 σ) := by
  unfold f_Law_push
  refine C.of (by decide +kernel) (Nat.le_of_ble_eq_true rfl) (L := [some (.ref 6), some (.int v1)]) rfl ?_
  refine S.of1 (pc2 := 1) (fun Q => g_aload_n d_Law_push_0 rfl) ?_
  refine S.of1 (pc2 := 4) (fun Q => g_geti fl_RX4_19 gc_6_3 d_Law_push_1) ?_
  refine S.of1 (pc2 := 7) (fun Q => g_sipush (v := (128 : Int32)) d_Law_push_4 (by decide)) ?_
  refine S.br (c := (128 : Int32) ≤ (σ.1 6 3)) (t := 30) (e := 10) (fun Q kt kf => g_icmp_ge d_Law_push_7 rfl kt kf) (fun h1 => ?_) (fun h1 => ?_)
  · exact S.ret (fun Q hq => g_vret rfl d_Law_push_30 hq)
  · refine S.of1 (pc2 := 11) (fun Q => g_aload_n d_Law_push_10 rfl) ?_
    refine S.of1 (pc2 := 14) (fun Q => g_getr fl_RX4_16 gc_6_2 d_Law_push_11) ?_
    refine S.of1 (pc2 := 15) (fun Q => g_aload_n d_Law_push_14 rfl) ?_
    refine S.of1 (pc2 := 18) (fun Q => g_geti fl_RX4_19 gc_6_3 d_Law_push_15) ?_
    refine S.of1 (pc2 := 19) (fun Q => g_iload_n d_Law_push_18 rfl) ?_
    refine S.chk (fun h2 => ?_)
    refine S.of1 (pc2 := 20) (fun Q => g_iast ga_9 (gix_in h2) d_Law_push_19) ?_
    refine S.gup (fun s3 => ?_)
    refine S.of1 (pc2 := 21) (fun Q => g_aload_n d_Law_push_20 rfl) ?_
    refine S.of1 (pc2 := 22) (fun Q => g_dup d_Law_push_21 rfl) ?_
    refine S.of1 (pc2 := 25) (fun Q => g_geti fl_RX4_19 gc_6_3 d_Law_push_22) ?_
    refine S.of1 (pc2 := 26) (fun Q => g_iconst (v := (1 : Int32)) d_Law_push_25 (by decide)) ?_
    refine S.of1 (pc2 := 27) (fun Q => g_iadd d_Law_push_26) ?_
    refine S.of1 (pc2 := 30) (fun Q => g_puti fl_RX4_19 gc_6_3 rfl rfl d_Law_push_27) ?_
    refine S.gup (fun s4 => ?_)
    exact S.ret (fun Q hq => g_vret rfl d_Law_push_30 hq)
def f_Law_value_j104 (k7 : Int32 → gS → Option (Int32 × gS)) (v2 : Int32) (s0 : Int32) (σ : gS) : Option (Int32 × gS) :=
  (f_Law_push s0 σ).bind fun s13 => k7 (v2 + (1 : Int32)) s13
theorem s_Law_value_j104 (d : Nat) (hd : 2 ≤ d) (k7 : Int32 → gS → Option (Int32 × gS)) (hk7 : ∀ (v2 : Int32) (τ : gS), S wI m_Law_value d 7 [some (.ref 6), some (.ref 10), some (.int v2), none, none, none] [] τ (k7 v2 τ)) (v2 : Int32) (s0 : Int32) (σ : gS) : S wI m_Law_value d 104 [some (.ref 6), some (.ref 10), some (.int v2), none, none, none] [.int s0, .ref 6] σ (f_Law_value_j104 k7 v2 s0 σ) := by
  unfold f_Law_value_j104
  refine S.call_wV (pc3 := 107) rfl (c_Law_push (d - 1) (by omega) s0 σ) (fun Q => g_callV (M2 := m_Law_push) (vs := [.int s0]) (st := []) lv_RX4_26 gk_6 rfl rfl (Nat.le_of_ble_eq_true rfl) (by omega) (Nat.le_of_ble_eq_true rfl) rfl d_Law_value_104) (fun s13 => ?_)
  refine S.of1 (pc2 := 187) (fun Q => g_goto d_Law_value_107 rfl) ?_
  refine S.of1 (pc2 := 190) (L2 := [some (.ref 6), some (.ref 10), some (.int (v2 + (1 : Int32))), none, none, none]) (fun Q => g_iinc d_Law_value_187 rfl (congrArg (fun z => v2 + z) (by decide)) (Nat.le_of_ble_eq_true rfl) rfl) ?_
  refine S.of1 (pc2 := 7) (fun Q => g_goto d_Law_value_190 rfl) ?_
  exact S.wk (L2 := [some (.ref 6), some (.ref 10), some (.int (v2 + (1 : Int32))), none, none, none]) (And.intro rfl (And.intro rfl (And.intro rfl trivial))) (hk7 (v2 + (1 : Int32)) s13)
def f_Law_value_j123 (k7 : Int32 → gS → Option (Int32 × gS)) (v2 : Int32) (s0 : Int32) (σ : gS) : Option (Int32 × gS) :=
  (f_Law_push s0 σ).bind fun s18 => k7 (v2 + (1 : Int32)) s18
theorem s_Law_value_j123 (d : Nat) (hd : 2 ≤ d) (k7 : Int32 → gS → Option (Int32 × gS)) (hk7 : ∀ (v2 : Int32) (τ : gS), S wI m_Law_value d 7 [some (.ref 6), some (.ref 10), some (.int v2), none, none, none] [] τ (k7 v2 τ)) (v2 : Int32) (s0 : Int32) (σ : gS) : S wI m_Law_value d 123 [some (.ref 6), some (.ref 10), some (.int v2), none, none, none] [.int s0, .ref 6] σ (f_Law_value_j123 k7 v2 s0 σ) := by
  unfold f_Law_value_j123
  refine S.call_wV (pc3 := 126) rfl (c_Law_push (d - 1) (by omega) s0 σ) (fun Q => g_callV (M2 := m_Law_push) (vs := [.int s0]) (st := []) lv_RX4_26 gk_6 rfl rfl (Nat.le_of_ble_eq_true rfl) (by omega) (Nat.le_of_ble_eq_true rfl) rfl d_Law_value_123) (fun s18 => ?_)
  refine S.of1 (pc2 := 187) (fun Q => g_goto d_Law_value_126 rfl) ?_
  refine S.of1 (pc2 := 190) (L2 := [some (.ref 6), some (.ref 10), some (.int (v2 + (1 : Int32))), none, none, none]) (fun Q => g_iinc d_Law_value_187 rfl (congrArg (fun z => v2 + z) (by decide)) (Nat.le_of_ble_eq_true rfl) rfl) ?_
  refine S.of1 (pc2 := 7) (fun Q => g_goto d_Law_value_190 rfl) ?_
  exact S.wk (L2 := [some (.ref 6), some (.ref 10), some (.int (v2 + (1 : Int32))), none, none, none]) (And.intro rfl (And.intro rfl (And.intro rfl trivial))) (hk7 (v2 + (1 : Int32)) s18)
def f_Law_value_j158 (k7 : Int32 → gS → Option (Int32 × gS)) (s0 : Int32) (σ : gS) : Option (Int32 × gS) :=
  k7 (s0 + (1 : Int32)) σ
theorem s_Law_value_j158 (d : Nat) (hd : 2 ≤ d) (k7 : Int32 → gS → Option (Int32 × gS)) (hk7 : ∀ (v2 : Int32) (τ : gS), S wI m_Law_value d 7 [some (.ref 6), some (.ref 10), some (.int v2), none, none, none] [] τ (k7 v2 τ)) (s0 : Int32) (σ : gS) : S wI m_Law_value d 158 [some (.ref 6), some (.ref 10), none, none, none, none] [.int s0] σ (f_Law_value_j158 k7 s0 σ) := by
  unfold f_Law_value_j158
  refine S.of1 (pc2 := 159) (L2 := [some (.ref 6), some (.ref 10), some (.int s0), none, none, none]) (fun Q => g_istore_n d_Law_value_158 (Nat.le_of_ble_eq_true rfl) rfl) ?_
  refine S.of1 (pc2 := 187) (fun Q => g_goto d_Law_value_159 rfl) ?_
  refine S.of1 (pc2 := 190) (L2 := [some (.ref 6), some (.ref 10), some (.int (s0 + (1 : Int32))), none, none, none]) (fun Q => g_iinc d_Law_value_187 rfl (congrArg (fun z => s0 + z) (by decide)) (Nat.le_of_ble_eq_true rfl) rfl) ?_
  refine S.of1 (pc2 := 7) (fun Q => g_goto d_Law_value_190 rfl) ?_
  exact S.wk (L2 := [some (.ref 6), some (.ref 10), some (.int (s0 + (1 : Int32))), none, none, none]) (And.intro rfl (And.intro rfl (And.intro rfl trivial))) (hk7 (s0 + (1 : Int32)) σ)
def f_Law_value_L7 : Nat → Int32 → gS → Option (Int32 × gS)
  | 0, _, _ => none
  | n + 1, v2, σ =>
  if (σ.1 6 4) ≤ v2 then some ((0 : Int32), σ) else if (128 : Int32) ≤ v2 then some ((0 : Int32), σ) else if gix v2 128 then glt (σ.1 7 v2.toNatClampNeg) fun x5 => if gix v2 128 then glt (σ.1 8 v2.toNatClampNeg) fun x7 => if x5 = (1 : Int32) then (f_Law_push x7 σ).bind fun s9 => (fun v2 σ => f_Law_value_L7 n v2 σ) (v2 + (1 : Int32)) s9 else if x5 = (2 : Int32) then (f_T_within x7 (6 : Int32)).bind fun q11 => if q11 = 0 then f_Law_value_j104 (fun v2 σ => f_Law_value_L7 n v2 σ) v2 (0 : Int32) σ else if gix x7 6 then f_Law_value_j104 (fun v2 σ => f_Law_value_L7 n v2 σ) v2 (σ.1 10 x7.toNatClampNeg) σ else none else if x5 = (3 : Int32) then (f_Law_pop σ).bind fun q16 => if q16.1 = 0 then f_Law_value_j123 (fun v2 σ => f_Law_value_L7 n v2 σ) v2 (1 : Int32) q16.2 else f_Law_value_j123 (fun v2 σ => f_Law_value_L7 n v2 σ) v2 (0 : Int32) q16.2 else if x5 = (4 : Int32) then (f_Law_pop σ).bind fun q20 => (f_Law_push (-q20.1) q20.2).bind fun s21 => (fun v2 σ => f_Law_value_L7 n v2 σ) (v2 + (1 : Int32)) s21 else if x5 = (5 : Int32) then (f_Law_pop σ).bind fun q23 => if q23.1 = 0 then f_Law_value_j158 (fun v2 σ => f_Law_value_L7 n v2 σ) (gmax v2 x7) q23.2 else f_Law_value_j158 (fun v2 σ => f_Law_value_L7 n v2 σ) v2 q23.2 else if x5 = (6 : Int32) then (f_Law_pop σ).bind fun q26 => some (q26.1, q26.2) else (f_Law_pop σ).bind fun q27 => (f_Law_pop q27.2).bind fun q28 => (f_Law_joined x5 q28.1 q27.1).bind fun q29 => (f_Law_push q29 q28.2).bind fun s30 => (fun v2 σ => f_Law_value_L7 n v2 σ) (v2 + (1 : Int32)) s30 else none else none
theorem s_Law_value_L7 (d : Nat) (hd : 2 ≤ d) : ∀ (n : Nat) (v2 : Int32) (σ : gS), S wI m_Law_value d 7 [some (.ref 6), some (.ref 10), some (.int v2), none, none, none] [] σ (f_Law_value_L7 n v2 σ) := by
  intro n
  induction n with
  | zero =>
    intros
    unfold f_Law_value_L7
    exact S.no
  | succ n ih =>
    intro v2 σ
    unfold f_Law_value_L7
    refine S.of1 (pc2 := 8) (fun Q => g_iload_n d_Law_value_7 rfl) ?_
    refine S.of1 (pc2 := 9) (fun Q => g_aload_n d_Law_value_8 rfl) ?_
    refine S.of1 (pc2 := 12) (fun Q => g_geti fl_RX4_23 gc_6_4 d_Law_value_9) ?_
    refine S.br (c := (σ.1 6 4) ≤ v2) (t := 193) (e := 15) (fun Q kt kf => g_icmp_ge d_Law_value_12 rfl kt kf) (fun h2 => ?_) (fun h2 => ?_)
    · refine S.of1 (pc2 := 194) (fun Q => g_iconst (v := (0 : Int32)) d_Law_value_193 (by decide)) ?_
      exact S.ret (fun Q hq => g_iret rfl d_Law_value_194 hq)
    · refine S.of1 (pc2 := 16) (fun Q => g_iload_n d_Law_value_15 rfl) ?_
      refine S.of1 (pc2 := 19) (fun Q => g_sipush (v := (128 : Int32)) d_Law_value_16 (by decide)) ?_
      refine S.br (c := (128 : Int32) ≤ v2) (t := 193) (e := 22) (fun Q kt kf => g_icmp_ge d_Law_value_19 rfl kt kf) (fun h3 => ?_) (fun h3 => ?_)
      · refine S.of1 (pc2 := 194) (fun Q => g_iconst (v := (0 : Int32)) d_Law_value_193 (by decide)) ?_
        exact S.ret (fun Q hq => g_iret rfl d_Law_value_194 hq)
      · refine S.of1 (pc2 := 23) (fun Q => g_aload_n d_Law_value_22 rfl) ?_
        refine S.of1 (pc2 := 26) (fun Q => g_getr fl_RX4_9 gc_6_0 d_Law_value_23) ?_
        refine S.of1 (pc2 := 27) (fun Q => g_iload_n d_Law_value_26 rfl) ?_
        refine S.chk (fun h4 => ?_)
        refine S.of1 (pc2 := 28) (fun Q => g_iald ga_7 (gix_in h4) d_Law_value_27) ?_
        refine S.of1 (pc2 := 29) (L2 := [some (.ref 6), some (.ref 10), some (.int v2), some (.int (σ.1 7 v2.toNatClampNeg)), none, none]) (fun Q => g_istore_n d_Law_value_28 (Nat.le_of_ble_eq_true rfl) rfl) ?_
        refine S.glt (x := (σ.1 7 v2.toNatClampNeg)) (Lf := fun y => [some (.ref 6), some (.ref 10), some (.int v2), some (.int y), none, none]) (fun x5 => ?_)
        refine S.of1 (pc2 := 30) (fun Q => g_aload_n d_Law_value_29 rfl) ?_
        refine S.of1 (pc2 := 33) (fun Q => g_getr fl_RX4_13 gc_6_1 d_Law_value_30) ?_
        refine S.of1 (pc2 := 34) (fun Q => g_iload_n d_Law_value_33 rfl) ?_
        refine S.chk (fun h6 => ?_)
        refine S.of1 (pc2 := 35) (fun Q => g_iald ga_8 (gix_in h6) d_Law_value_34) ?_
        refine S.of1 (pc2 := 37) (L2 := [some (.ref 6), some (.ref 10), some (.int v2), some (.int x5), some (.int (σ.1 8 v2.toNatClampNeg)), none]) (fun Q => g_istore d_Law_value_35 (Nat.le_of_ble_eq_true rfl) rfl) ?_
        refine S.glt (x := (σ.1 8 v2.toNatClampNeg)) (Lf := fun y => [some (.ref 6), some (.ref 10), some (.int v2), some (.int x5), some (.int y), none]) (fun x7 => ?_)
        refine S.of1 (pc2 := 38) (fun Q => g_iload_n d_Law_value_37 rfl) ?_
        refine S.cs (c := x5 = (1 : Int32)) (fun h8 => ?_) (fun h8 => ?_)
        · refine S.of1 (pc2 := 76) (fun Q => g_tableIn (off := 38) d_Law_value_38 (by rw [h8]; decide) (by rw [h8]; decide) (by rw [h8]; rfl) rfl) ?_
          refine S.of1 (pc2 := 77) (fun Q => g_aload_n d_Law_value_76 rfl) ?_
          refine S.of1 (pc2 := 79) (fun Q => g_iload d_Law_value_77 rfl) ?_
          refine S.call_wV (pc3 := 82) rfl (c_Law_push (d - 1) (by omega) x7 σ) (fun Q => g_callV (M2 := m_Law_push) (vs := [.int x7]) (st := []) lv_RX4_26 gk_6 rfl rfl (Nat.le_of_ble_eq_true rfl) (by omega) (Nat.le_of_ble_eq_true rfl) rfl d_Law_value_79) (fun s9 => ?_)
          refine S.of1 (pc2 := 187) (fun Q => g_goto d_Law_value_82 rfl) ?_
          refine S.of1 (pc2 := 190) (L2 := [some (.ref 6), some (.ref 10), some (.int (v2 + (1 : Int32))), some (.int x5), some (.int x7), none]) (fun Q => g_iinc d_Law_value_187 rfl (congrArg (fun z => v2 + z) (by decide)) (Nat.le_of_ble_eq_true rfl) rfl) ?_
          refine S.of1 (pc2 := 7) (fun Q => g_goto d_Law_value_190 rfl) ?_
          exact S.wk (L2 := [some (.ref 6), some (.ref 10), some (.int (v2 + (1 : Int32))), none, none, none]) (And.intro rfl (And.intro rfl (And.intro rfl trivial))) (ih (v2 + (1 : Int32)) s9)
        · refine S.cs (c := x5 = (2 : Int32)) (fun h10 => ?_) (fun h10 => ?_)
          · refine S.of1 (pc2 := 85) (fun Q => g_tableIn (off := 47) d_Law_value_38 (by rw [h10]; decide) (by rw [h10]; decide) (by rw [h10]; rfl) rfl) ?_
            refine S.of1 (pc2 := 86) (fun Q => g_aload_n d_Law_value_85 rfl) ?_
            refine S.of1 (pc2 := 88) (fun Q => g_iload d_Law_value_86 rfl) ?_
            refine S.of1 (pc2 := 89) (fun Q => g_aload_n d_Law_value_88 rfl) ?_
            refine S.of1 (pc2 := 90) (fun Q => g_alen (v := (6 : Int32)) ga_10 (by decide) d_Law_value_89) ?_
            refine S.call_rI (pc3 := 93) rfl (c_T_within (d - 1) (by omega) x7 (6 : Int32) σ) (fun Q => g_callSN (M2 := m_T_within) (vs := [.int x7, .int (6 : Int32)]) (st := [.ref 6]) ln_RX4_30 rfl (Nat.le_of_ble_eq_true rfl) (by omega) (Nat.le_of_ble_eq_true rfl) rfl d_Law_value_90) (fun q11 => ?_)
            refine S.br (c := q11 = 0) (t := 103) (e := 96) (fun Q kt kf => g_if_eq d_Law_value_93 rfl kt kf) (fun h12 => ?_) (fun h12 => ?_)
            · refine S.of1 (pc2 := 104) (fun Q => g_iconst (v := (0 : Int32)) d_Law_value_103 (by decide)) ?_
              exact S.wk (L2 := [some (.ref 6), some (.ref 10), some (.int v2), none, none, none]) (And.intro rfl (And.intro rfl (And.intro rfl trivial))) (s_Law_value_j104 d hd (fun v2 σ => f_Law_value_L7 n v2 σ) (fun v2 τ => ih v2 τ) v2 (0 : Int32) σ)
            · refine S.of1 (pc2 := 97) (fun Q => g_aload_n d_Law_value_96 rfl) ?_
              refine S.of1 (pc2 := 99) (fun Q => g_iload d_Law_value_97 rfl) ?_
              refine S.chk (fun h14 => ?_)
              refine S.of1 (pc2 := 100) (fun Q => g_iald ga_10 (gix_in h14) d_Law_value_99) ?_
              refine S.of1 (pc2 := 104) (fun Q => g_goto d_Law_value_100 rfl) ?_
              exact S.wk (L2 := [some (.ref 6), some (.ref 10), some (.int v2), none, none, none]) (And.intro rfl (And.intro rfl (And.intro rfl trivial))) (s_Law_value_j104 d hd (fun v2 σ => f_Law_value_L7 n v2 σ) (fun v2 τ => ih v2 τ) v2 (σ.1 10 x7.toNatClampNeg) σ)
          · refine S.cs (c := x5 = (3 : Int32)) (fun h15 => ?_) (fun h15 => ?_)
            · refine S.of1 (pc2 := 110) (fun Q => g_tableIn (off := 72) d_Law_value_38 (by rw [h15]; decide) (by rw [h15]; decide) (by rw [h15]; rfl) rfl) ?_
              refine S.of1 (pc2 := 111) (fun Q => g_aload_n d_Law_value_110 rfl) ?_
              refine S.of1 (pc2 := 112) (fun Q => g_aload_n d_Law_value_111 rfl) ?_
              refine S.call_wI (pc3 := 115) rfl (c_Law_pop (d - 1) (by omega) σ) (fun Q => g_callV (M2 := m_Law_pop) (vs := []) (st := [.ref 6]) lv_RX4_36 gk_6 rfl rfl (Nat.le_of_ble_eq_true rfl) (by omega) (Nat.le_of_ble_eq_true rfl) rfl d_Law_value_112) (fun q16 => ?_)
              refine S.br (c := q16.1 = 0) (t := 118) (e := 122) (fun Q kt kf => g_if_ne d_Law_value_115 rfl kf kt) (fun h17 => ?_) (fun h17 => ?_)
              · refine S.of1 (pc2 := 119) (fun Q => g_iconst (v := (1 : Int32)) d_Law_value_118 (by decide)) ?_
                refine S.of1 (pc2 := 123) (fun Q => g_goto d_Law_value_119 rfl) ?_
                exact S.wk (L2 := [some (.ref 6), some (.ref 10), some (.int v2), none, none, none]) (And.intro rfl (And.intro rfl (And.intro rfl trivial))) (s_Law_value_j123 d hd (fun v2 σ => f_Law_value_L7 n v2 σ) (fun v2 τ => ih v2 τ) v2 (1 : Int32) q16.2)
              · refine S.of1 (pc2 := 123) (fun Q => g_iconst (v := (0 : Int32)) d_Law_value_122 (by decide)) ?_
                exact S.wk (L2 := [some (.ref 6), some (.ref 10), some (.int v2), none, none, none]) (And.intro rfl (And.intro rfl (And.intro rfl trivial))) (s_Law_value_j123 d hd (fun v2 σ => f_Law_value_L7 n v2 σ) (fun v2 τ => ih v2 τ) v2 (0 : Int32) q16.2)
            · refine S.cs (c := x5 = (4 : Int32)) (fun h19 => ?_) (fun h19 => ?_)
              · refine S.of1 (pc2 := 129) (fun Q => g_tableIn (off := 91) d_Law_value_38 (by rw [h19]; decide) (by rw [h19]; decide) (by rw [h19]; rfl) rfl) ?_
                refine S.of1 (pc2 := 130) (fun Q => g_aload_n d_Law_value_129 rfl) ?_
                refine S.of1 (pc2 := 131) (fun Q => g_aload_n d_Law_value_130 rfl) ?_
                refine S.call_wI (pc3 := 134) rfl (c_Law_pop (d - 1) (by omega) σ) (fun Q => g_callV (M2 := m_Law_pop) (vs := []) (st := [.ref 6]) lv_RX4_36 gk_6 rfl rfl (Nat.le_of_ble_eq_true rfl) (by omega) (Nat.le_of_ble_eq_true rfl) rfl d_Law_value_131) (fun q20 => ?_)
                refine S.of1 (pc2 := 135) (fun Q => g_ineg d_Law_value_134) ?_
                refine S.call_wV (pc3 := 138) rfl (c_Law_push (d - 1) (by omega) (-q20.1) q20.2) (fun Q => g_callV (M2 := m_Law_push) (vs := [.int (-q20.1)]) (st := []) lv_RX4_26 gk_6 rfl rfl (Nat.le_of_ble_eq_true rfl) (by omega) (Nat.le_of_ble_eq_true rfl) rfl d_Law_value_135) (fun s21 => ?_)
                refine S.of1 (pc2 := 187) (fun Q => g_goto d_Law_value_138 rfl) ?_
                refine S.of1 (pc2 := 190) (L2 := [some (.ref 6), some (.ref 10), some (.int (v2 + (1 : Int32))), some (.int x5), some (.int x7), none]) (fun Q => g_iinc d_Law_value_187 rfl (congrArg (fun z => v2 + z) (by decide)) (Nat.le_of_ble_eq_true rfl) rfl) ?_
                refine S.of1 (pc2 := 7) (fun Q => g_goto d_Law_value_190 rfl) ?_
                exact S.wk (L2 := [some (.ref 6), some (.ref 10), some (.int (v2 + (1 : Int32))), none, none, none]) (And.intro rfl (And.intro rfl (And.intro rfl trivial))) (ih (v2 + (1 : Int32)) s21)
              · refine S.cs (c := x5 = (5 : Int32)) (fun h22 => ?_) (fun h22 => ?_)
                · refine S.of1 (pc2 := 141) (fun Q => g_tableIn (off := 103) d_Law_value_38 (by rw [h22]; decide) (by rw [h22]; decide) (by rw [h22]; rfl) rfl) ?_
                  refine S.of1 (pc2 := 142) (fun Q => g_aload_n d_Law_value_141 rfl) ?_
                  refine S.call_wI (pc3 := 145) rfl (c_Law_pop (d - 1) (by omega) σ) (fun Q => g_callV (M2 := m_Law_pop) (vs := []) (st := []) lv_RX4_36 gk_6 rfl rfl (Nat.le_of_ble_eq_true rfl) (by omega) (Nat.le_of_ble_eq_true rfl) rfl d_Law_value_142) (fun q23 => ?_)
                  refine S.br (c := q23.1 = 0) (t := 148) (e := 157) (fun Q kt kf => g_if_ne d_Law_value_145 rfl kf kt) (fun h24 => ?_) (fun h24 => ?_)
                  · refine S.of1 (pc2 := 149) (fun Q => g_iload_n d_Law_value_148 rfl) ?_
                    refine S.of1 (pc2 := 151) (fun Q => g_iload d_Law_value_149 rfl) ?_
                    refine S.of1 (pc2 := 154) (fun Q => g_mmax w_704 w_597 w_91 wc_max (by omega) (Nat.le_of_ble_eq_true rfl) d_Law_value_151) ?_
                    refine S.of1 (pc2 := 158) (fun Q => g_goto d_Law_value_154 rfl) ?_
                    exact S.wk (L2 := [some (.ref 6), some (.ref 10), none, none, none, none]) (And.intro rfl (And.intro rfl trivial)) (s_Law_value_j158 d hd (fun v2 σ => f_Law_value_L7 n v2 σ) (fun v2 τ => ih v2 τ) (gmax v2 x7) q23.2)
                  · refine S.of1 (pc2 := 158) (fun Q => g_iload_n d_Law_value_157 rfl) ?_
                    exact S.wk (L2 := [some (.ref 6), some (.ref 10), none, none, none, none]) (And.intro rfl (And.intro rfl trivial)) (s_Law_value_j158 d hd (fun v2 σ => f_Law_value_L7 n v2 σ) (fun v2 τ => ih v2 τ) v2 q23.2)
                · refine S.cs (c := x5 = (6 : Int32)) (fun h25 => ?_) (fun h25 => ?_)
                  · refine S.of1 (pc2 := 162) (fun Q => g_tableIn (off := 124) d_Law_value_38 (by rw [h25]; decide) (by rw [h25]; decide) (by rw [h25]; rfl) rfl) ?_
                    refine S.of1 (pc2 := 163) (fun Q => g_aload_n d_Law_value_162 rfl) ?_
                    refine S.call_wI (pc3 := 166) rfl (c_Law_pop (d - 1) (by omega) σ) (fun Q => g_callV (M2 := m_Law_pop) (vs := []) (st := []) lv_RX4_36 gk_6 rfl rfl (Nat.le_of_ble_eq_true rfl) (by omega) (Nat.le_of_ble_eq_true rfl) rfl d_Law_value_163) (fun q26 => ?_)
                    exact S.ret (fun Q hq => g_iret rfl d_Law_value_166 hq)
                  · refine S.of1 (pc2 := 167) (fun Q => g_tableOut d_Law_value_38 (by have a0 := lv_neT h8 (a := 1) (by decide); have a1 := lv_neT h10 (a := 2) (by decide); have a2 := lv_neT h15 (a := 3) (by decide); have a3 := lv_neT h19 (a := 4) (by decide); have a4 := lv_neT h22 (a := 5) (by decide); have a5 := lv_neT h25 (a := 6) (by decide); omega) rfl) ?_
                    refine S.of1 (pc2 := 168) (fun Q => g_aload_n d_Law_value_167 rfl) ?_
                    refine S.call_wI (pc3 := 171) rfl (c_Law_pop (d - 1) (by omega) σ) (fun Q => g_callV (M2 := m_Law_pop) (vs := []) (st := []) lv_RX4_36 gk_6 rfl rfl (Nat.le_of_ble_eq_true rfl) (by omega) (Nat.le_of_ble_eq_true rfl) rfl d_Law_value_168) (fun q27 => ?_)
                    refine S.of1 (pc2 := 173) (L2 := [some (.ref 6), some (.ref 10), some (.int v2), some (.int x5), some (.int x7), some (.int q27.1)]) (fun Q => g_istore d_Law_value_171 (Nat.le_of_ble_eq_true rfl) rfl) ?_
                    refine S.of1 (pc2 := 174) (fun Q => g_aload_n d_Law_value_173 rfl) ?_
                    refine S.of1 (pc2 := 175) (fun Q => g_iload_n d_Law_value_174 rfl) ?_
                    refine S.of1 (pc2 := 176) (fun Q => g_aload_n d_Law_value_175 rfl) ?_
                    refine S.call_wI (pc3 := 179) rfl (c_Law_pop (d - 1) (by omega) q27.2) (fun Q => g_callV (M2 := m_Law_pop) (vs := []) (st := [.int x5, .ref 6]) lv_RX4_36 gk_6 rfl rfl (Nat.le_of_ble_eq_true rfl) (by omega) (Nat.le_of_ble_eq_true rfl) rfl d_Law_value_176) (fun q28 => ?_)
                    refine S.of1 (pc2 := 181) (fun Q => g_iload d_Law_value_179 rfl) ?_
                    refine S.call_rI (pc3 := 184) rfl (c_Law_joined (d - 1) (by omega) x5 q28.1 q27.1 q28.2) (fun Q => g_callS (M2 := m_Law_joined) (vs := [.int x5, .int q28.1, .int q27.1]) (st := [.ref 6]) ls_RX4_46 rfl (Nat.le_of_ble_eq_true rfl) (by omega) (Nat.le_of_ble_eq_true rfl) rfl d_Law_value_181) (fun q29 => ?_)
                    refine S.call_wV (pc3 := 187) rfl (c_Law_push (d - 1) (by omega) q29 q28.2) (fun Q => g_callV (M2 := m_Law_push) (vs := [.int q29]) (st := []) lv_RX4_26 gk_6 rfl rfl (Nat.le_of_ble_eq_true rfl) (by omega) (Nat.le_of_ble_eq_true rfl) rfl d_Law_value_184) (fun s30 => ?_)
                    refine S.of1 (pc2 := 190) (L2 := [some (.ref 6), some (.ref 10), some (.int (v2 + (1 : Int32))), some (.int x5), some (.int x7), some (.int q27.1)]) (fun Q => g_iinc d_Law_value_187 rfl (congrArg (fun z => v2 + z) (by decide)) (Nat.le_of_ble_eq_true rfl) rfl) ?_
                    refine S.of1 (pc2 := 7) (fun Q => g_goto d_Law_value_190 rfl) ?_
                    exact S.wk (L2 := [some (.ref 6), some (.ref 10), some (.int (v2 + (1 : Int32))), none, none, none]) (And.intro rfl (And.intro rfl (And.intro rfl trivial))) (ih (v2 + (1 : Int32)) s30)
def f_Law_value (σ : gS) : Option (Int32 × gS) :=
  gup (gpi σ 6 3 (0 : Int32)) fun s1 => f_Law_value_L7 gfu (0 : Int32) s1
theorem c_Law_value (d : Nat) (hd : 2 ≤ d) (σ : gS) : C wI d m_Law_value [.ref 6, .ref 10] σ (f_Law_value σ) := by
  unfold f_Law_value
  refine C.of (by decide +kernel) (Nat.le_of_ble_eq_true rfl) (L := [some (.ref 6), some (.ref 10), none, none, none, none]) rfl ?_
  refine S.of1 (pc2 := 1) (fun Q => g_aload_n d_Law_value_0 rfl) ?_
  refine S.of1 (pc2 := 2) (fun Q => g_iconst (v := (0 : Int32)) d_Law_value_1 (by decide)) ?_
  refine S.of1 (pc2 := 5) (fun Q => g_puti fl_RX4_19 gc_6_3 rfl rfl d_Law_value_2) ?_
  refine S.gup (fun s1 => ?_)
  refine S.of1 (pc2 := 6) (fun Q => g_iconst (v := (0 : Int32)) d_Law_value_5 (by decide)) ?_
  refine S.of1 (pc2 := 7) (L2 := [some (.ref 6), some (.ref 10), some (.int (0 : Int32)), none, none, none]) (fun Q => g_istore_n d_Law_value_6 (Nat.le_of_ble_eq_true rfl) rfl) ?_
  exact S.wk (L2 := [some (.ref 6), some (.ref 10), some (.int (0 : Int32)), none, none, none]) (And.intro rfl (And.intro rfl (And.intro rfl trivial))) (s_Law_value_L7 d hd gfu (0 : Int32) s1)
def f_Isl_speechAs (v1 : Int32) (v2 : Int32) (v3 : Int32) (v4 : Int32) (v5 : Int32) (σ : gS) : Option (Int32 × gS) :=
  (f_T_within v1 (σ.1 1 6)).bind fun q1 => if q1 = 0 then some ((0 : Int32), σ) else if gix v1 10 then if (σ.1 5 v1.toNatClampNeg) < 0 then if (σ.1 6 4) = 0 then if v3 < (6 : Int32) then some ((gmin (5 : Int32) (v4 + (1 : Int32))), σ) else some (v4, σ) else gup (gpi σ 10 0 v4) fun s7 => gup (gpi s7 10 1 v3) fun s8 => gup (gpi s8 10 2 v2) fun s9 => if gix v1 10 then gup (gpi s9 10 3 (s9.1 4 v1.toNatClampNeg)) fun s11 => gup (gpi s11 10 4 v5) fun s12 => gup (gpi s12 10 5 v1) fun s13 => (f_Law_value s13).bind fun q14 => some ((gmax (0 : Int32) (gmin (5 : Int32) q14.1)), q14.2) else none else if gix v1 10 then some ((σ.1 5 v1.toNatClampNeg), σ) else none else none
theorem c_Isl_speechAs (d : Nat) (hd : 3 ≤ d) (v1 : Int32) (v2 : Int32) (v3 : Int32) (v4 : Int32) (v5 : Int32) (σ : gS) : C wI d m_Isl_speechAs [.ref 1, .int v1, .int v2, .int v3, .int v4, .int v5] σ (f_Isl_speechAs v1 v2 v3 v4 v5 σ) := by
  unfold f_Isl_speechAs
  refine C.of (by decide +kernel) (Nat.le_of_ble_eq_true rfl) (L := [some (.ref 1), some (.int v1), some (.int v2), some (.int v3), some (.int v4), some (.int v5)]) rfl ?_
  refine S.of1 (pc2 := 1) (fun Q => g_iload_n d_Isl_speechAs_0 rfl) ?_
  refine S.of1 (pc2 := 2) (fun Q => g_aload_n d_Isl_speechAs_1 rfl) ?_
  refine S.of1 (pc2 := 5) (fun Q => g_geti fl_RX3_34 gc_1_6 d_Isl_speechAs_2) ?_
  refine S.call_rI (pc3 := 8) rfl (c_T_within (d - 1) (by omega) v1 (σ.1 1 6) σ) (fun Q => g_callSN (M2 := m_T_within) (vs := [.int v1, .int (σ.1 1 6)]) (st := []) ln_RX3_55 rfl (Nat.le_of_ble_eq_true rfl) (by omega) (Nat.le_of_ble_eq_true rfl) rfl d_Isl_speechAs_5) (fun q1 => ?_)
  refine S.br (c := q1 = 0) (t := 11) (e := 13) (fun Q kt kf => g_if_ne d_Isl_speechAs_8 rfl kf kt) (fun h2 => ?_) (fun h2 => ?_)
  · refine S.of1 (pc2 := 12) (fun Q => g_iconst (v := (0 : Int32)) d_Isl_speechAs_11 (by decide)) ?_
    exact S.ret (fun Q hq => g_iret rfl d_Isl_speechAs_12 hq)
  · refine S.of1 (pc2 := 14) (fun Q => g_aload_n d_Isl_speechAs_13 rfl) ?_
    refine S.of1 (pc2 := 17) (fun Q => g_getr fl_RX3_21 gc_1_3 d_Isl_speechAs_14) ?_
    refine S.of1 (pc2 := 18) (fun Q => g_iload_n d_Isl_speechAs_17 rfl) ?_
    refine S.chk (fun h3 => ?_)
    refine S.of1 (pc2 := 19) (fun Q => g_iald ga_5 (gix_in h3) d_Isl_speechAs_18) ?_
    refine S.br (c := (σ.1 5 v1.toNatClampNeg) < 0) (t := 29) (e := 22) (fun Q kt kf => g_if_lt d_Isl_speechAs_19 rfl kt kf) (fun h4 => ?_) (fun h4 => ?_)
    · refine S.of1 (pc2 := 30) (fun Q => g_aload_n d_Isl_speechAs_29 rfl) ?_
      refine S.of1 (pc2 := 33) (fun Q => g_getr fl_RX3_27 gc_1_4 d_Isl_speechAs_30) ?_
      refine S.of1 (pc2 := 36) (fun Q => g_geti fl_RX3_78 gc_6_4 d_Isl_speechAs_33) ?_
      refine S.br (c := (σ.1 6 4) = 0) (t := 39) (e := 59) (fun Q kt kf => g_if_ne d_Isl_speechAs_36 rfl kf kt) (fun h5 => ?_) (fun h5 => ?_)
      · refine S.of1 (pc2 := 40) (fun Q => g_iload_n d_Isl_speechAs_39 rfl) ?_
        refine S.of1 (pc2 := 42) (fun Q => g_bipush (v := (6 : Int32)) d_Isl_speechAs_40 (by decide)) ?_
        refine S.br (c := v3 < (6 : Int32)) (t := 50) (e := 45) (fun Q kt kf => g_icmp_lt d_Isl_speechAs_42 rfl kt kf) (fun h6 => ?_) (fun h6 => ?_)
        · refine S.of1 (pc2 := 51) (fun Q => g_iconst (v := (5 : Int32)) d_Isl_speechAs_50 (by decide)) ?_
          refine S.of1 (pc2 := 53) (fun Q => g_iload d_Isl_speechAs_51 rfl) ?_
          refine S.of1 (pc2 := 54) (fun Q => g_iconst (v := (1 : Int32)) d_Isl_speechAs_53 (by decide)) ?_
          refine S.of1 (pc2 := 55) (fun Q => g_iadd d_Isl_speechAs_54) ?_
          refine S.of1 (pc2 := 58) (fun Q => g_mmin w_690 w_600 w_91 wc_min (by omega) (Nat.le_of_ble_eq_true rfl) d_Isl_speechAs_55) ?_
          exact S.ret (fun Q hq => g_iret rfl d_Isl_speechAs_58 hq)
        · refine S.of1 (pc2 := 47) (fun Q => g_iload d_Isl_speechAs_45 rfl) ?_
          refine S.of1 (pc2 := 58) (fun Q => g_goto d_Isl_speechAs_47 rfl) ?_
          exact S.ret (fun Q hq => g_iret rfl d_Isl_speechAs_58 hq)
      · refine S.of1 (pc2 := 60) (fun Q => g_aload_n d_Isl_speechAs_59 rfl) ?_
        refine S.of1 (pc2 := 63) (fun Q => g_getr fl_RX3_31 gc_1_5 d_Isl_speechAs_60) ?_
        refine S.of1 (pc2 := 64) (fun Q => g_iconst (v := (0 : Int32)) d_Isl_speechAs_63 (by decide)) ?_
        refine S.of1 (pc2 := 66) (fun Q => g_iload d_Isl_speechAs_64 rfl) ?_
        refine S.of1 (pc2 := 67) (fun Q => g_iast ga_10 (vp_lit rfl) d_Isl_speechAs_66) ?_
        refine S.gup (fun s7 => ?_)
        refine S.of1 (pc2 := 68) (fun Q => g_aload_n d_Isl_speechAs_67 rfl) ?_
        refine S.of1 (pc2 := 71) (fun Q => g_getr fl_RX3_31 gc_1_5 d_Isl_speechAs_68) ?_
        refine S.of1 (pc2 := 72) (fun Q => g_iconst (v := (1 : Int32)) d_Isl_speechAs_71 (by decide)) ?_
        refine S.of1 (pc2 := 73) (fun Q => g_iload_n d_Isl_speechAs_72 rfl) ?_
        refine S.of1 (pc2 := 74) (fun Q => g_iast ga_10 (vp_lit rfl) d_Isl_speechAs_73) ?_
        refine S.gup (fun s8 => ?_)
        refine S.of1 (pc2 := 75) (fun Q => g_aload_n d_Isl_speechAs_74 rfl) ?_
        refine S.of1 (pc2 := 78) (fun Q => g_getr fl_RX3_31 gc_1_5 d_Isl_speechAs_75) ?_
        refine S.of1 (pc2 := 79) (fun Q => g_iconst (v := (2 : Int32)) d_Isl_speechAs_78 (by decide)) ?_
        refine S.of1 (pc2 := 80) (fun Q => g_iload_n d_Isl_speechAs_79 rfl) ?_
        refine S.of1 (pc2 := 81) (fun Q => g_iast ga_10 (vp_lit rfl) d_Isl_speechAs_80) ?_
        refine S.gup (fun s9 => ?_)
        refine S.of1 (pc2 := 82) (fun Q => g_aload_n d_Isl_speechAs_81 rfl) ?_
        refine S.of1 (pc2 := 85) (fun Q => g_getr fl_RX3_31 gc_1_5 d_Isl_speechAs_82) ?_
        refine S.of1 (pc2 := 86) (fun Q => g_iconst (v := (3 : Int32)) d_Isl_speechAs_85 (by decide)) ?_
        refine S.of1 (pc2 := 87) (fun Q => g_aload_n d_Isl_speechAs_86 rfl) ?_
        refine S.of1 (pc2 := 90) (fun Q => g_getr fl_RX3_18 gc_1_2 d_Isl_speechAs_87) ?_
        refine S.of1 (pc2 := 91) (fun Q => g_iload_n d_Isl_speechAs_90 rfl) ?_
        refine S.chk (fun h10 => ?_)
        refine S.of1 (pc2 := 92) (fun Q => g_iald ga_4 (gix_in h10) d_Isl_speechAs_91) ?_
        refine S.of1 (pc2 := 93) (fun Q => g_iast ga_10 (vp_lit rfl) d_Isl_speechAs_92) ?_
        refine S.gup (fun s11 => ?_)
        refine S.of1 (pc2 := 94) (fun Q => g_aload_n d_Isl_speechAs_93 rfl) ?_
        refine S.of1 (pc2 := 97) (fun Q => g_getr fl_RX3_31 gc_1_5 d_Isl_speechAs_94) ?_
        refine S.of1 (pc2 := 98) (fun Q => g_iconst (v := (4 : Int32)) d_Isl_speechAs_97 (by decide)) ?_
        refine S.of1 (pc2 := 100) (fun Q => g_iload d_Isl_speechAs_98 rfl) ?_
        refine S.of1 (pc2 := 101) (fun Q => g_iast ga_10 (vp_lit rfl) d_Isl_speechAs_100) ?_
        refine S.gup (fun s12 => ?_)
        refine S.of1 (pc2 := 102) (fun Q => g_aload_n d_Isl_speechAs_101 rfl) ?_
        refine S.of1 (pc2 := 105) (fun Q => g_getr fl_RX3_31 gc_1_5 d_Isl_speechAs_102) ?_
        refine S.of1 (pc2 := 106) (fun Q => g_iconst (v := (5 : Int32)) d_Isl_speechAs_105 (by decide)) ?_
        refine S.of1 (pc2 := 107) (fun Q => g_iload_n d_Isl_speechAs_106 rfl) ?_
        refine S.of1 (pc2 := 108) (fun Q => g_iast ga_10 (vp_lit rfl) d_Isl_speechAs_107) ?_
        refine S.gup (fun s13 => ?_)
        refine S.of1 (pc2 := 109) (fun Q => g_iconst (v := (0 : Int32)) d_Isl_speechAs_108 (by decide)) ?_
        refine S.of1 (pc2 := 110) (fun Q => g_iconst (v := (5 : Int32)) d_Isl_speechAs_109 (by decide)) ?_
        refine S.of1 (pc2 := 111) (fun Q => g_aload_n d_Isl_speechAs_110 rfl) ?_
        refine S.of1 (pc2 := 114) (fun Q => g_getr fl_RX3_27 gc_1_4 d_Isl_speechAs_111) ?_
        refine S.of1 (pc2 := 115) (fun Q => g_aload_n d_Isl_speechAs_114 rfl) ?_
        refine S.of1 (pc2 := 118) (fun Q => g_getr fl_RX3_31 gc_1_5 d_Isl_speechAs_115) ?_
        refine S.call_wI (pc3 := 121) rfl (c_Law_value (d - 1) (by omega) s13) (fun Q => g_callV (M2 := m_Law_value) (vs := [.ref 10]) (st := [.int (5 : Int32), .int (0 : Int32)]) lv_RX3_87 gk_6 rfl rfl (Nat.le_of_ble_eq_true rfl) (by omega) (Nat.le_of_ble_eq_true rfl) rfl d_Isl_speechAs_118) (fun q14 => ?_)
        refine S.of1 (pc2 := 124) (fun Q => g_mmin w_690 w_600 w_91 wc_min (by omega) (Nat.le_of_ble_eq_true rfl) d_Isl_speechAs_121) ?_
        refine S.of1 (pc2 := 127) (fun Q => g_mmax w_708 w_597 w_91 wc_max (by omega) (Nat.le_of_ble_eq_true rfl) d_Isl_speechAs_124) ?_
        exact S.ret (fun Q hq => g_iret rfl d_Isl_speechAs_127 hq)
    · refine S.of1 (pc2 := 23) (fun Q => g_aload_n d_Isl_speechAs_22 rfl) ?_
      refine S.of1 (pc2 := 26) (fun Q => g_getr fl_RX3_21 gc_1_3 d_Isl_speechAs_23) ?_
      refine S.of1 (pc2 := 27) (fun Q => g_iload_n d_Isl_speechAs_26 rfl) ?_
      refine S.chk (fun h15 => ?_)
      refine S.of1 (pc2 := 28) (fun Q => g_iald ga_5 (gix_in h15) d_Isl_speechAs_27) ?_
      exact S.ret (fun Q hq => g_iret rfl d_Isl_speechAs_28 hq)
def f_Isl_speechNow (v1 : Int32) (σ : gS) : Option (Int32 × gS) :=
  (f_T_within v1 (σ.1 1 6)).bind fun q1 => if q1 = 0 then some ((0 : Int32), σ) else if gix v1 10 then if gix v1 10 then (f_Isl_speechAs v1 (σ.1 2 v1.toNatClampNeg) (σ.1 3 v1.toNatClampNeg) (σ.1 1 7) (σ.1 1 9) σ).bind fun q5 => some (q5.1, q5.2) else none else none
theorem c_Isl_speechNow (d : Nat) (hd : 4 ≤ d) (v1 : Int32) (σ : gS) : C wI d m_Isl_speechNow [.ref 1, .int v1] σ (f_Isl_speechNow v1 σ) := by
  unfold f_Isl_speechNow
  refine C.of (by decide +kernel) (Nat.le_of_ble_eq_true rfl) (L := [some (.ref 1), some (.int v1)]) rfl ?_
  refine S.of1 (pc2 := 1) (fun Q => g_iload_n d_Isl_speechNow_0 rfl) ?_
  refine S.of1 (pc2 := 2) (fun Q => g_aload_n d_Isl_speechNow_1 rfl) ?_
  refine S.of1 (pc2 := 5) (fun Q => g_geti fl_RX3_34 gc_1_6 d_Isl_speechNow_2) ?_
  refine S.call_rI (pc3 := 8) rfl (c_T_within (d - 1) (by omega) v1 (σ.1 1 6) σ) (fun Q => g_callSN (M2 := m_T_within) (vs := [.int v1, .int (σ.1 1 6)]) (st := []) ln_RX3_55 rfl (Nat.le_of_ble_eq_true rfl) (by omega) (Nat.le_of_ble_eq_true rfl) rfl d_Isl_speechNow_5) (fun q1 => ?_)
  refine S.br (c := q1 = 0) (t := 39) (e := 11) (fun Q kt kf => g_if_eq d_Isl_speechNow_8 rfl kt kf) (fun h2 => ?_) (fun h2 => ?_)
  · refine S.of1 (pc2 := 40) (fun Q => g_iconst (v := (0 : Int32)) d_Isl_speechNow_39 (by decide)) ?_
    exact S.ret (fun Q hq => g_iret rfl d_Isl_speechNow_40 hq)
  · refine S.of1 (pc2 := 12) (fun Q => g_aload_n d_Isl_speechNow_11 rfl) ?_
    refine S.of1 (pc2 := 13) (fun Q => g_iload_n d_Isl_speechNow_12 rfl) ?_
    refine S.of1 (pc2 := 14) (fun Q => g_aload_n d_Isl_speechNow_13 rfl) ?_
    refine S.of1 (pc2 := 17) (fun Q => g_getr fl_RX3_9 gc_1_0 d_Isl_speechNow_14) ?_
    refine S.of1 (pc2 := 18) (fun Q => g_iload_n d_Isl_speechNow_17 rfl) ?_
    refine S.chk (fun h3 => ?_)
    refine S.of1 (pc2 := 19) (fun Q => g_iald ga_2 (gix_in h3) d_Isl_speechNow_18) ?_
    refine S.of1 (pc2 := 20) (fun Q => g_aload_n d_Isl_speechNow_19 rfl) ?_
    refine S.of1 (pc2 := 23) (fun Q => g_getr fl_RX3_15 gc_1_1 d_Isl_speechNow_20) ?_
    refine S.of1 (pc2 := 24) (fun Q => g_iload_n d_Isl_speechNow_23 rfl) ?_
    refine S.chk (fun h4 => ?_)
    refine S.of1 (pc2 := 25) (fun Q => g_iald ga_3 (gix_in h4) d_Isl_speechNow_24) ?_
    refine S.of1 (pc2 := 26) (fun Q => g_aload_n d_Isl_speechNow_25 rfl) ?_
    refine S.of1 (pc2 := 29) (fun Q => g_geti fl_RX3_65 gc_1_7 d_Isl_speechNow_26) ?_
    refine S.of1 (pc2 := 30) (fun Q => g_aload_n d_Isl_speechNow_29 rfl) ?_
    refine S.of1 (pc2 := 33) (fun Q => g_geti fl_RX3_71 gc_1_9 d_Isl_speechNow_30) ?_
    refine S.call_wI (pc3 := 36) rfl (c_Isl_speechAs (d - 1) (by omega) v1 (σ.1 2 v1.toNatClampNeg) (σ.1 3 v1.toNatClampNeg) (σ.1 1 7) (σ.1 1 9) σ) (fun Q => g_callV (M2 := m_Isl_speechAs) (vs := [.int v1, .int (σ.1 2 v1.toNatClampNeg), .int (σ.1 3 v1.toNatClampNeg), .int (σ.1 1 7), .int (σ.1 1 9)]) (st := []) lv_RX3_74 gk_1 rfl rfl (Nat.le_of_ble_eq_true rfl) (by omega) (Nat.le_of_ble_eq_true rfl) rfl d_Isl_speechNow_33) (fun q5 => ?_)
    refine S.of1 (pc2 := 40) (fun Q => g_goto d_Isl_speechNow_36 rfl) ?_
    exact S.ret (fun Q hq => g_iret rfl d_Isl_speechNow_40 hq)
def f_T_says (v1 : Int32) (σ : gS) : Option (Int32 × gS) :=
  (f_T_within v1 (σ.1 1 6)).bind fun q1 => if q1 = 0 then some ((-1 : Int32), σ) else (f_Isl_speechNow v1 σ).bind fun q3 => some (q3.1, q3.2)
theorem c_T_says (d : Nat) (hd : 5 ≤ d) (v1 : Int32) (σ : gS) : C wI d m_T_says [.ref 0, .int v1] σ (f_T_says v1 σ) := by
  unfold f_T_says
  refine C.of (by decide +kernel) (Nat.le_of_ble_eq_true rfl) (L := [some (.ref 0), some (.int v1)]) rfl ?_
  refine S.of1 (pc2 := 1) (fun Q => g_iload_n d_T_says_0 rfl) ?_
  refine S.of1 (pc2 := 2) (fun Q => g_aload_n d_T_says_1 rfl) ?_
  refine S.of1 (pc2 := 5) (fun Q => g_getr fl_RX10_10 gc_0_0 d_T_says_2) ?_
  refine S.of1 (pc2 := 8) (fun Q => g_geti fl_RX10_126 gc_1_6 d_T_says_5) ?_
  refine S.call_rI (pc3 := 11) rfl (c_T_within (d - 1) (by omega) v1 (σ.1 1 6) σ) (fun Q => g_callS (M2 := m_T_within) (vs := [.int v1, .int (σ.1 1 6)]) (st := []) ls_RX10_72 rfl (Nat.le_of_ble_eq_true rfl) (by omega) (Nat.le_of_ble_eq_true rfl) rfl d_T_says_8) (fun q1 => ?_)
  refine S.br (c := q1 = 0) (t := 25) (e := 14) (fun Q kt kf => g_if_eq d_T_says_11 rfl kt kf) (fun h2 => ?_) (fun h2 => ?_)
  · refine S.of1 (pc2 := 26) (fun Q => g_iconst (v := (-1 : Int32)) d_T_says_25 (by decide)) ?_
    exact S.ret (fun Q hq => g_iret rfl d_T_says_26 hq)
  · refine S.of1 (pc2 := 15) (fun Q => g_aload_n d_T_says_14 rfl) ?_
    refine S.of1 (pc2 := 18) (fun Q => g_getr fl_RX10_10 gc_0_0 d_T_says_15) ?_
    refine S.of1 (pc2 := 19) (fun Q => g_iload_n d_T_says_18 rfl) ?_
    refine S.call_wI (pc3 := 22) rfl (c_Isl_speechNow (d - 1) (by omega) v1 σ) (fun Q => g_callV (M2 := m_Isl_speechNow) (vs := [.int v1]) (st := []) lv_RX10_129 gk_1 rfl rfl (Nat.le_of_ble_eq_true rfl) (by omega) (Nat.le_of_ble_eq_true rfl) rfl d_T_says_19) (fun q3 => ?_)
    refine S.of1 (pc2 := 26) (fun Q => g_goto d_T_says_22 rfl) ?_
    exact S.ret (fun Q hq => g_iret rfl d_T_says_26 hq)
def f_Cr_agree (c : Nat) (v1 : Int32) (v2 : Int32) (σ : gS) : Option Int32 :=
  if gix v1 10 then if gix v2 10 then if (σ.1 (c + 2) v1.toNatClampNeg) = (σ.1 (c + 2) v2.toNatClampNeg) then some (0 : Int32) else if gix v1 10 then if gix v2 10 then if (σ.1 c 3) < (gabs ((σ.1 (c + 1) v1.toNatClampNeg) - (σ.1 (c + 1) v2.toNatClampNeg))) then some (0 : Int32) else some (1 : Int32) else none else none else none else none
theorem c_Cr_agree (d : Nat) (hd : 2 ≤ d) (c : Nat) (hc : gcls c = some 2) (v1 : Int32) (v2 : Int32) (σ : gS) : C (rI σ) d m_Cr_agree [.ref c, .int v1, .int v2] σ (f_Cr_agree c v1 v2 σ) := by
  unfold f_Cr_agree
  refine C.of (by decide +kernel) (Nat.le_of_ble_eq_true rfl) (L := [some (.ref c), some (.int v1), some (.int v2)]) rfl ?_
  refine S.of1 (pc2 := 1) (fun Q => g_aload_n d_Cr_agree_0 rfl) ?_
  refine S.of1 (pc2 := 4) (fun Q => g_getr fl_RX2_15 (gq_2_1 hc) d_Cr_agree_1) ?_
  refine S.of1 (pc2 := 5) (fun Q => g_iload_n d_Cr_agree_4 rfl) ?_
  refine S.chk (fun h1 => ?_)
  refine S.of1 (pc2 := 6) (fun Q => g_iald (gp_2_1 hc) (gix_in h1) d_Cr_agree_5) ?_
  refine S.of1 (pc2 := 7) (fun Q => g_aload_n d_Cr_agree_6 rfl) ?_
  refine S.of1 (pc2 := 10) (fun Q => g_getr fl_RX2_15 (gq_2_1 hc) d_Cr_agree_7) ?_
  refine S.of1 (pc2 := 11) (fun Q => g_iload_n d_Cr_agree_10 rfl) ?_
  refine S.chk (fun h2 => ?_)
  refine S.of1 (pc2 := 12) (fun Q => g_iald (gp_2_1 hc) (gix_in h2) d_Cr_agree_11) ?_
  refine S.br (c := (σ.1 (c + 2) v1.toNatClampNeg) = (σ.1 (c + 2) v2.toNatClampNeg)) (t := 42) (e := 15) (fun Q kt kf => g_icmp_eq d_Cr_agree_12 rfl kt kf) (fun h3 => ?_) (fun h3 => ?_)
  · refine S.of1 (pc2 := 43) (fun Q => g_iconst (v := (0 : Int32)) d_Cr_agree_42 (by decide)) ?_
    exact S.ret (fun Q hq => g_zret rfl rfl d_Cr_agree_43 hq)
  · refine S.of1 (pc2 := 16) (fun Q => g_aload_n d_Cr_agree_15 rfl) ?_
    refine S.of1 (pc2 := 19) (fun Q => g_getr fl_RX2_9 (gq_2_0 hc) d_Cr_agree_16) ?_
    refine S.of1 (pc2 := 20) (fun Q => g_iload_n d_Cr_agree_19 rfl) ?_
    refine S.chk (fun h4 => ?_)
    refine S.of1 (pc2 := 21) (fun Q => g_iald (gp_2_0 hc) (gix_in h4) d_Cr_agree_20) ?_
    refine S.of1 (pc2 := 22) (fun Q => g_aload_n d_Cr_agree_21 rfl) ?_
    refine S.of1 (pc2 := 25) (fun Q => g_getr fl_RX2_9 (gq_2_0 hc) d_Cr_agree_22) ?_
    refine S.of1 (pc2 := 26) (fun Q => g_iload_n d_Cr_agree_25 rfl) ?_
    refine S.chk (fun h5 => ?_)
    refine S.of1 (pc2 := 27) (fun Q => g_iald (gp_2_0 hc) (gix_in h5) d_Cr_agree_26) ?_
    refine S.of1 (pc2 := 28) (fun Q => g_isub d_Cr_agree_27) ?_
    refine S.of1 (pc2 := 31) (fun Q => g_mabs w_749 w_750 w_91 wc_abs (by omega) (Nat.le_of_ble_eq_true rfl) d_Cr_agree_28) ?_
    refine S.of1 (pc2 := 32) (fun Q => g_aload_n d_Cr_agree_31 rfl) ?_
    refine S.of1 (pc2 := 35) (fun Q => g_geti fl_RX2_56 (gq_2_3 hc) d_Cr_agree_32) ?_
    refine S.br (c := (σ.1 c 3) < (gabs ((σ.1 (c + 1) v1.toNatClampNeg) - (σ.1 (c + 1) v2.toNatClampNeg)))) (t := 42) (e := 38) (fun Q kt kf => g_icmp_gt d_Cr_agree_35 rfl kt kf) (fun h6 => ?_) (fun h6 => ?_)
    · refine S.of1 (pc2 := 43) (fun Q => g_iconst (v := (0 : Int32)) d_Cr_agree_42 (by decide)) ?_
      exact S.ret (fun Q hq => g_zret rfl rfl d_Cr_agree_43 hq)
    · refine S.of1 (pc2 := 39) (fun Q => g_iconst (v := (1 : Int32)) d_Cr_agree_38 (by decide)) ?_
      refine S.of1 (pc2 := 43) (fun Q => g_goto d_Cr_agree_39 rfl) ?_
      exact S.ret (fun Q hq => g_zret rfl rfl d_Cr_agree_43 hq)
