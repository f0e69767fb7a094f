def f_M_taken_j75 (σ : gS) (v1 : Int32) (v2 : Int32) (v3 : Int32) : Option Int32 :=
  if v3 = v2 then if gix v1 6 then (f_M_kindOf (σ.1 76 v1.toNatClampNeg) σ).bind fun q14 => some q14 else none else some (-12 : Int32)
theorem s_M_taken_j75 (d : Nat) (hd : 3 ≤ d) (σ : gS) (v1 : Int32) (v2 : Int32) (v3 : Int32) : S (rI σ) m_M_taken d 75 [some (.ref 59), some (.int v1), some (.int v2), some (.int v3)] [] σ (f_M_taken_j75 σ v1 v2 v3) := by
  unfold f_M_taken_j75
  refine S.of1 (pc2 := 76) (fun Q => g_iload_n d_M_taken_75 rfl) ?_
  refine S.of1 (pc2 := 77) (fun Q => g_iload_n d_M_taken_76 rfl) ?_
  refine S.br (c := v3 = v2) (t := 80) (e := 93) (fun Q kt kf => g_icmp_ne d_M_taken_77 rfl kf kt) (fun h12 => ?_) (fun h12 => ?_)
  · refine S.of1 (pc2 := 81) (fun Q => g_aload_n d_M_taken_80 rfl) ?_
    refine S.of1 (pc2 := 82) (fun Q => g_aload_n d_M_taken_81 rfl) ?_
    refine S.of1 (pc2 := 85) (fun Q => g_getr fl_RX11_58 gc_59_36 d_M_taken_82) ?_
    refine S.of1 (pc2 := 86) (fun Q => g_iload_n d_M_taken_85 rfl) ?_
    refine S.chk (fun h13 => ?_)
    refine S.of1 (pc2 := 87) (fun Q => g_iald ga_76 (gix_in h13) d_M_taken_86) ?_
    refine S.call_rI (pc3 := 90) rfl (c_M_kindOf (d - 1) (by omega) (σ.1 76 v1.toNatClampNeg) σ) (fun Q => g_callV (M2 := m_M_kindOf) (vs := [.int (σ.1 76 v1.toNatClampNeg)]) (st := []) lv_RX11_334 gk_59 rfl rfl (Nat.le_of_ble_eq_true rfl) (by omega) (Nat.le_of_ble_eq_true rfl) rfl d_M_taken_87) (fun q14 => ?_)
    refine S.of1 (pc2 := 95) (fun Q => g_goto d_M_taken_90 rfl) ?_
    exact S.ret (fun Q hq => g_iret rfl d_M_taken_95 hq)
  · refine S.of1 (pc2 := 95) (fun Q => g_bipush (v := (-12 : Int32)) d_M_taken_93 (by decide)) ?_
    exact S.ret (fun Q hq => g_iret rfl d_M_taken_95 hq)
def f_M_taken_L58 (σ : gS) : Nat → Int32 → Int32 → Int32 → Option Int32
  | 0, _, _, _ => none
  | n + 1, v1, v2, v3 =>
  if v3 = v2 then f_M_taken_j75 σ v1 v2 v3 else if v3 ≤ 0 then f_M_taken_j75 σ v1 v2 v3 else (f_M_above v3).bind fun q16 => (fun v1 v2 v3 => f_M_taken_L58 σ n v1 v2 v3) v1 v2 q16
theorem s_M_taken_L58 (d : Nat) (hd : 3 ≤ d) (σ : gS) : ∀ (n : Nat) (v1 : Int32) (v2 : Int32) (v3 : Int32), S (rI σ) m_M_taken d 58 [some (.ref 59), some (.int v1), some (.int v2), some (.int v3)] [] σ (f_M_taken_L58 σ n v1 v2 v3) := by
  intro n
  induction n with
  | zero =>
    intros
    unfold f_M_taken_L58
    exact S.no
  | succ n ih =>
    intro v1 v2 v3
    unfold f_M_taken_L58
    refine S.of1 (pc2 := 59) (fun Q => g_iload_n d_M_taken_58 rfl) ?_
    refine S.of1 (pc2 := 60) (fun Q => g_iload_n d_M_taken_59 rfl) ?_
    refine S.br (c := v3 = v2) (t := 75) (e := 63) (fun Q kt kf => g_icmp_eq d_M_taken_60 rfl kt kf) (fun h11 => ?_) (fun h11 => ?_)
    · exact S.wk (L2 := [some (.ref 59), some (.int v1), some (.int v2), some (.int v3)]) (And.intro rfl (And.intro rfl (And.intro rfl (And.intro rfl trivial)))) (s_M_taken_j75 d hd σ v1 v2 v3)
    · refine S.of1 (pc2 := 64) (fun Q => g_iload_n d_M_taken_63 rfl) ?_
      refine S.br (c := v3 ≤ 0) (t := 75) (e := 67) (fun Q kt kf => g_if_le d_M_taken_64 rfl kt kf) (fun h15 => ?_) (fun h15 => ?_)
      · exact S.wk (L2 := [some (.ref 59), some (.int v1), some (.int v2), some (.int v3)]) (And.intro rfl (And.intro rfl (And.intro rfl (And.intro rfl trivial)))) (s_M_taken_j75 d hd σ v1 v2 v3)
      · refine S.of1 (pc2 := 68) (fun Q => g_iload_n d_M_taken_67 rfl) ?_
        refine S.call_rI (pc3 := 71) rfl (c_M_above (d - 1) (by omega) v3 σ) (fun Q => g_callS (M2 := m_M_above) (vs := [.int v3]) (st := []) ls_RX11_337 rfl (Nat.le_of_ble_eq_true rfl) (by omega) (Nat.le_of_ble_eq_true rfl) rfl d_M_taken_68) (fun q16 => ?_)
        refine S.of1 (pc2 := 72) (L2 := [some (.ref 59), some (.int v1), some (.int v2), some (.int q16)]) (fun Q => g_istore_n d_M_taken_71 (Nat.le_of_ble_eq_true rfl) rfl) ?_
        refine S.of1 (pc2 := 58) (fun Q => g_goto d_M_taken_72 rfl) ?_
        exact S.wk (L2 := [some (.ref 59), some (.int v1), some (.int v2), some (.int q16)]) (And.intro rfl (And.intro rfl (And.intro rfl (And.intro rfl trivial)))) (ih v1 v2 q16)
def f_M_taken (v1 : Int32) (v2 : Int32) (σ : gS) : Option Int32 :=
  (f_M_isShelf v1).bind fun q1 => if q1 = 0 then some (-1 : Int32) else (f_M_within (v2.toInt64) (0 : Int64) (7 : Int64)).bind fun q3 => if q3 = 0 then some (-1 : Int32) else if gix v1 6 then if 0 ≤ (σ.1 76 v1.toNatClampNeg) then if gix v1 6 then if (σ.1 76 v1.toNatClampNeg) < (50 : Int32) then if gix v1 6 then (f_M_kindOf (σ.1 76 v1.toNatClampNeg) σ).bind fun q10 => f_M_taken_L58 σ gfu v1 v2 q10 else none else some (-12 : Int32) else none else some (-11 : Int32) else none
theorem c_M_taken (d : Nat) (hd : 3 ≤ d) (v1 : Int32) (v2 : Int32) (σ : gS) : C (rI σ) d m_M_taken [.ref 59, .int v1, .int v2] σ (f_M_taken v1 v2 σ) := by
  unfold f_M_taken
  refine C.of (by decide +kernel) (Nat.le_of_ble_eq_true rfl) (L := [some (.ref 59), some (.int v1), some (.int v2), none]) rfl ?_
  refine S.of1 (pc2 := 1) (fun Q => g_iload_n d_M_taken_0 rfl) ?_
  refine S.call_rI (pc3 := 4) rfl (c_M_isShelf (d - 1) (by omega) v1 σ) (fun Q => g_callS (M2 := m_M_isShelf) (vs := [.int v1]) (st := []) ls_RX11_103 rfl (Nat.le_of_ble_eq_true rfl) (by omega) (Nat.le_of_ble_eq_true rfl) rfl d_M_taken_1) (fun q1 => ?_)
  refine S.br (c := q1 = 0) (t := 19) (e := 7) (fun Q kt kf => g_if_eq d_M_taken_4 rfl kt kf) (fun h2 => ?_) (fun h2 => ?_)
  · refine S.of1 (pc2 := 20) (fun Q => g_iconst (v := (-1 : Int32)) d_M_taken_19 (by decide)) ?_
    exact S.ret (fun Q hq => g_iret rfl d_M_taken_20 hq)
  · refine S.of1 (pc2 := 8) (fun Q => g_iload_n d_M_taken_7 rfl) ?_
    refine S.of1 (pc2 := 9) (fun Q => g_i2l d_M_taken_8) ?_
    refine S.of1 (pc2 := 10) (fun Q => g_lconst (v := (0 : Int64)) d_M_taken_9 (by decide)) ?_
    refine S.of1 (pc2 := 13) (fun Q => g_ldc2 (v := (7 : Int64)) d_M_taken_10 w_1271) ?_
    refine S.call_rI (pc3 := 16) rfl (c_M_within (d - 1) (by omega) (v2.toInt64) (0 : Int64) (7 : Int64) σ) (fun Q => g_callS (M2 := m_M_within) (vs := [.long (v2.toInt64), .long (0 : Int64), .long (7 : Int64)]) (st := []) ls_RX11_84 rfl (Nat.le_of_ble_eq_true rfl) (by omega) (Nat.le_of_ble_eq_true rfl) rfl d_M_taken_13) (fun q3 => ?_)
    refine S.br (c := q3 = 0) (t := 19) (e := 21) (fun Q kt kf => g_if_ne d_M_taken_16 rfl kf kt) (fun h4 => ?_) (fun h4 => ?_)
    · refine S.of1 (pc2 := 20) (fun Q => g_iconst (v := (-1 : Int32)) d_M_taken_19 (by decide)) ?_
      exact S.ret (fun Q hq => g_iret rfl d_M_taken_20 hq)
    · refine S.of1 (pc2 := 22) (fun Q => g_aload_n d_M_taken_21 rfl) ?_
      refine S.of1 (pc2 := 25) (fun Q => g_getr fl_RX11_58 gc_59_36 d_M_taken_22) ?_
      refine S.of1 (pc2 := 26) (fun Q => g_iload_n d_M_taken_25 rfl) ?_
      refine S.chk (fun h5 => ?_)
      refine S.of1 (pc2 := 27) (fun Q => g_iald ga_76 (gix_in h5) d_M_taken_26) ?_
      refine S.br (c := 0 ≤ (σ.1 76 v1.toNatClampNeg)) (t := 33) (e := 30) (fun Q kt kf => g_if_ge d_M_taken_27 rfl kt kf) (fun h6 => ?_) (fun h6 => ?_)
      · refine S.of1 (pc2 := 34) (fun Q => g_aload_n d_M_taken_33 rfl) ?_
        refine S.of1 (pc2 := 37) (fun Q => g_getr fl_RX11_58 gc_59_36 d_M_taken_34) ?_
        refine S.of1 (pc2 := 38) (fun Q => g_iload_n d_M_taken_37 rfl) ?_
        refine S.chk (fun h7 => ?_)
        refine S.of1 (pc2 := 39) (fun Q => g_iald ga_76 (gix_in h7) d_M_taken_38) ?_
        refine S.of1 (pc2 := 41) (fun Q => g_bipush (v := (50 : Int32)) d_M_taken_39 (by decide)) ?_
        refine S.br (c := (σ.1 76 v1.toNatClampNeg) < (50 : Int32)) (t := 47) (e := 44) (fun Q kt kf => g_icmp_lt d_M_taken_41 rfl kt kf) (fun h8 => ?_) (fun h8 => ?_)
        · refine S.of1 (pc2 := 48) (fun Q => g_aload_n d_M_taken_47 rfl) ?_
          refine S.of1 (pc2 := 49) (fun Q => g_aload_n d_M_taken_48 rfl) ?_
          refine S.of1 (pc2 := 52) (fun Q => g_getr fl_RX11_58 gc_59_36 d_M_taken_49) ?_
          refine S.of1 (pc2 := 53) (fun Q => g_iload_n d_M_taken_52 rfl) ?_
          refine S.chk (fun h9 => ?_)
          refine S.of1 (pc2 := 54) (fun Q => g_iald ga_76 (gix_in h9) d_M_taken_53) ?_
          refine S.call_rI (pc3 := 57) rfl (c_M_kindOf (d - 1) (by omega) (σ.1 76 v1.toNatClampNeg) σ) (fun Q => g_callV (M2 := m_M_kindOf) (vs := [.int (σ.1 76 v1.toNatClampNeg)]) (st := []) lv_RX11_334 gk_59 rfl rfl (Nat.le_of_ble_eq_true rfl) (by omega) (Nat.le_of_ble_eq_true rfl) rfl d_M_taken_54) (fun q10 => ?_)
          refine S.of1 (pc2 := 58) (L2 := [some (.ref 59), some (.int v1), some (.int v2), some (.int q10)]) (fun Q => g_istore_n d_M_taken_57 (Nat.le_of_ble_eq_true rfl) rfl) ?_
          exact S.wk (L2 := [some (.ref 59), some (.int v1), some (.int v2), some (.int q10)]) (And.intro rfl (And.intro rfl (And.intro rfl (And.intro rfl trivial)))) (s_M_taken_L58 d hd σ gfu v1 v2 q10)
        · refine S.of1 (pc2 := 46) (fun Q => g_bipush (v := (-12 : Int32)) d_M_taken_44 (by decide)) ?_
          exact S.ret (fun Q hq => g_iret rfl d_M_taken_46 hq)
      · refine S.of1 (pc2 := 32) (fun Q => g_bipush (v := (-11 : Int32)) d_M_taken_30 (by decide)) ?_
        exact S.ret (fun Q hq => g_iret rfl d_M_taken_32 hq)
def f_M_count (v1 : Int32) (σ : gS) : Option Int32 :=
  if v1 = (0 : Int32) then some (σ.1 59 6) else if v1 = (1 : Int32) then (f_M_bitsOf (σ.1 59 21)).bind fun q3 => some q3 else if v1 = (2 : Int32) then some (σ.1 59 8) else if v1 = (3 : Int32) then some (σ.1 59 5) else if v1 = (4 : Int32) then some (σ.1 59 30) else if v1 = (5 : Int32) then some (σ.1 59 33) else some (-1 : Int32)
theorem c_M_count (d : Nat) (hd : 2 ≤ d) (v1 : Int32) (σ : gS) : C (rI σ) d m_M_count [.ref 59, .int v1] σ (f_M_count v1 σ) := by
  unfold f_M_count
  refine C.of (by decide +kernel) (Nat.le_of_ble_eq_true rfl) (L := [some (.ref 59), some (.int v1)]) rfl ?_
  refine S.of1 (pc2 := 1) (fun Q => g_iload_n d_M_count_0 rfl) ?_
  refine S.cs (c := v1 = (0 : Int32)) (fun h1 => ?_) (fun h1 => ?_)
  · refine S.of1 (pc2 := 40) (fun Q => g_tableIn (off := 39) d_M_count_1 (by rw [h1]; decide) (by rw [h1]; decide) (by rw [h1]; rfl) rfl) ?_
    refine S.of1 (pc2 := 41) (fun Q => g_aload_n d_M_count_40 rfl) ?_
    refine S.of1 (pc2 := 44) (fun Q => g_geti fl_RX11_81 gc_59_6 d_M_count_41) ?_
    exact S.ret (fun Q hq => g_iret rfl d_M_count_44 hq)
  · refine S.cs (c := v1 = (1 : Int32)) (fun h2 => ?_) (fun h2 => ?_)
    · refine S.of1 (pc2 := 45) (fun Q => g_tableIn (off := 44) d_M_count_1 (by rw [h2]; decide) (by rw [h2]; decide) (by rw [h2]; rfl) rfl) ?_
      refine S.of1 (pc2 := 46) (fun Q => g_aload_n d_M_count_45 rfl) ?_
      refine S.of1 (pc2 := 49) (fun Q => g_geti fl_RX11_277 gc_59_21 d_M_count_46) ?_
      refine S.call_rI (pc3 := 52) rfl (c_M_bitsOf (d - 1) (by omega) (σ.1 59 21) σ) (fun Q => g_callS (M2 := m_M_bitsOf) (vs := [.int (σ.1 59 21)]) (st := []) ls_RX11_228 rfl (Nat.le_of_ble_eq_true rfl) (by omega) (Nat.le_of_ble_eq_true rfl) rfl d_M_count_49) (fun q3 => ?_)
      exact S.ret (fun Q hq => g_iret rfl d_M_count_52 hq)
    · refine S.cs (c := v1 = (2 : Int32)) (fun h4 => ?_) (fun h4 => ?_)
      · refine S.of1 (pc2 := 53) (fun Q => g_tableIn (off := 52) d_M_count_1 (by rw [h4]; decide) (by rw [h4]; decide) (by rw [h4]; rfl) rfl) ?_
        refine S.of1 (pc2 := 54) (fun Q => g_aload_n d_M_count_53 rfl) ?_
        refine S.of1 (pc2 := 57) (fun Q => g_geti fl_RX11_138 gc_59_8 d_M_count_54) ?_
        exact S.ret (fun Q hq => g_iret rfl d_M_count_57 hq)
      · refine S.cs (c := v1 = (3 : Int32)) (fun h5 => ?_) (fun h5 => ?_)
        · refine S.of1 (pc2 := 58) (fun Q => g_tableIn (off := 57) d_M_count_1 (by rw [h5]; decide) (by rw [h5]; decide) (by rw [h5]; rfl) rfl) ?_
          refine S.of1 (pc2 := 59) (fun Q => g_aload_n d_M_count_58 rfl) ?_
          refine S.of1 (pc2 := 62) (fun Q => g_geti fl_RX11_75 gc_59_5 d_M_count_59) ?_
          exact S.ret (fun Q hq => g_iret rfl d_M_count_62 hq)
        · refine S.cs (c := v1 = (4 : Int32)) (fun h6 => ?_) (fun h6 => ?_)
          · refine S.of1 (pc2 := 63) (fun Q => g_tableIn (off := 62) d_M_count_1 (by rw [h6]; decide) (by rw [h6]; decide) (by rw [h6]; rfl) rfl) ?_
            refine S.of1 (pc2 := 64) (fun Q => g_aload_n d_M_count_63 rfl) ?_
            refine S.of1 (pc2 := 67) (fun Q => g_geti fl_RX11_296 gc_59_30 d_M_count_64) ?_
            exact S.ret (fun Q hq => g_iret rfl d_M_count_67 hq)
          · refine S.cs (c := v1 = (5 : Int32)) (fun h7 => ?_) (fun h7 => ?_)
            · refine S.of1 (pc2 := 68) (fun Q => g_tableIn (off := 67) d_M_count_1 (by rw [h7]; decide) (by rw [h7]; decide) (by rw [h7]; rfl) rfl) ?_
              refine S.of1 (pc2 := 69) (fun Q => g_aload_n d_M_count_68 rfl) ?_
              refine S.of1 (pc2 := 72) (fun Q => g_geti fl_RX11_299 gc_59_33 d_M_count_69) ?_
              exact S.ret (fun Q hq => g_iret rfl d_M_count_72 hq)
            · refine S.of1 (pc2 := 73) (fun Q => g_tableOut d_M_count_1 (by have a0 := lv_neT h1 (a := 0) (by decide); have a1 := lv_neT h2 (a := 1) (by decide); have a2 := lv_neT h4 (a := 2) (by decide); have a3 := lv_neT h5 (a := 3) (by decide); have a4 := lv_neT h6 (a := 4) (by decide); have a5 := lv_neT h7 (a := 5) (by decide); omega) rfl) ?_
              refine S.of1 (pc2 := 74) (fun Q => g_iconst (v := (-1 : Int32)) d_M_count_73 (by decide)) ?_
              exact S.ret (fun Q hq => g_iret rfl d_M_count_74 hq)
