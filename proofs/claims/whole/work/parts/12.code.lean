def f_T_pairs (v1 : Int32) (σ : gS) : Option (Int32 × gS) :=
  (f_T_within v1 (3 : Int32)).bind fun q1 => if q1 = 0 then some ((-1 : Int32), σ) else (f_Cr_gatherNow 11 σ).bind fun s3 => if v1 = 0 then (f_Cr_mostCouples 11 s3).bind fun q5 => some (q5.1, q5.2) else if v1 = (1 : Int32) then (f_Cr_marriagesToDrought 11 s3).bind fun q7 => some (q7.1, q7.2) else (f_Cr_alone 11 s3).bind fun q8 => some (q8, s3)
theorem c_T_pairs (d : Nat) (hd : 16 ≤ d) (v1 : Int32) (σ : gS) : C wI d m_T_pairs [.ref 0, .int v1] σ (f_T_pairs v1 σ) := by
  unfold f_T_pairs
  refine C.of (by decide +kernel) (Nat.le_of_ble_eq_true rfl) (L := [some (.ref 0), some (.int v1)]) rfl ?_
  refine S.of1 (pc2 := 1) (fun Q => g_iload_n d_T_pairs_0 rfl) ?_
  refine S.of1 (pc2 := 2) (fun Q => g_iconst (v := (3 : Int32)) d_T_pairs_1 (by decide)) ?_
  refine S.call_rI (pc3 := 5) rfl (c_T_within (d - 1) (by omega) v1 (3 : Int32) σ) (fun Q => g_callS (M2 := m_T_within) (vs := [.int v1, .int (3 : Int32)]) (st := []) ls_RX10_72 rfl (Nat.le_of_ble_eq_true rfl) (by omega) (Nat.le_of_ble_eq_true rfl) rfl d_T_pairs_2) (fun q1 => ?_)
  refine S.br (c := q1 = 0) (t := 8) (e := 10) (fun Q kt kf => g_if_ne d_T_pairs_5 rfl kf kt) (fun h2 => ?_) (fun h2 => ?_)
  · refine S.of1 (pc2 := 9) (fun Q => g_iconst (v := (-1 : Int32)) d_T_pairs_8 (by decide)) ?_
    exact S.ret (fun Q hq => g_iret rfl d_T_pairs_9 hq)
  · refine S.of1 (pc2 := 11) (fun Q => g_aload_n d_T_pairs_10 rfl) ?_
    refine S.of1 (pc2 := 14) (fun Q => g_getr fl_RX10_19 gc_0_1 d_T_pairs_11) ?_
    refine S.of1 (pc2 := 15) (fun Q => g_aload_n d_T_pairs_14 rfl) ?_
    refine S.of1 (pc2 := 18) (fun Q => g_getr fl_RX10_10 gc_0_0 d_T_pairs_15) ?_
    refine S.call_wV (pc3 := 21) rfl (c_Cr_gatherNow (d - 1) (by omega) 11 gk_11 σ) (fun Q => g_callV (M2 := m_Cr_gatherNow) (vs := [.ref 1]) (st := []) lv_RX10_132 gk_11 rfl rfl (Nat.le_of_ble_eq_true rfl) (by omega) (Nat.le_of_ble_eq_true rfl) rfl d_T_pairs_18) (fun s3 => ?_)
    refine S.of1 (pc2 := 22) (fun Q => g_iload_n d_T_pairs_21 rfl) ?_
    refine S.br (c := v1 = 0) (t := 25) (e := 35) (fun Q kt kf => g_if_ne d_T_pairs_22 rfl kf kt) (fun h4 => ?_) (fun h4 => ?_)
    · refine S.of1 (pc2 := 26) (fun Q => g_aload_n d_T_pairs_25 rfl) ?_
      refine S.of1 (pc2 := 29) (fun Q => g_getr fl_RX10_19 gc_0_1 d_T_pairs_26) ?_
      refine S.call_wI (pc3 := 32) rfl (c_Cr_mostCouples (d - 1) (by omega) 11 gk_11 s3) (fun Q => g_callV (M2 := m_Cr_mostCouples) (vs := []) (st := []) lv_RX10_183 gk_11 rfl rfl (Nat.le_of_ble_eq_true rfl) (by omega) (Nat.le_of_ble_eq_true rfl) rfl d_T_pairs_29) (fun q5 => ?_)
      refine S.of1 (pc2 := 57) (fun Q => g_goto d_T_pairs_32 rfl) ?_
      exact S.ret (fun Q hq => g_iret rfl d_T_pairs_57 hq)
    · refine S.of1 (pc2 := 36) (fun Q => g_iload_n d_T_pairs_35 rfl) ?_
      refine S.of1 (pc2 := 37) (fun Q => g_iconst (v := (1 : Int32)) d_T_pairs_36 (by decide)) ?_
      refine S.br (c := v1 = (1 : Int32)) (t := 40) (e := 50) (fun Q kt kf => g_icmp_ne d_T_pairs_37 rfl kf kt) (fun h6 => ?_) (fun h6 => ?_)
      · refine S.of1 (pc2 := 41) (fun Q => g_aload_n d_T_pairs_40 rfl) ?_
        refine S.of1 (pc2 := 44) (fun Q => g_getr fl_RX10_19 gc_0_1 d_T_pairs_41) ?_
        refine S.call_wI (pc3 := 47) rfl (c_Cr_marriagesToDrought (d - 1) (by omega) 11 gk_11 s3) (fun Q => g_callV (M2 := m_Cr_marriagesToDrought) (vs := []) (st := []) lv_RX10_186 gk_11 rfl rfl (Nat.le_of_ble_eq_true rfl) (by omega) (Nat.le_of_ble_eq_true rfl) rfl d_T_pairs_44) (fun q7 => ?_)
        refine S.of1 (pc2 := 57) (fun Q => g_goto d_T_pairs_47 rfl) ?_
        exact S.ret (fun Q hq => g_iret rfl d_T_pairs_57 hq)
      · refine S.of1 (pc2 := 51) (fun Q => g_aload_n d_T_pairs_50 rfl) ?_
        refine S.of1 (pc2 := 54) (fun Q => g_getr fl_RX10_19 gc_0_1 d_T_pairs_51) ?_
        refine S.call_rI (pc3 := 57) rfl (c_Cr_alone (d - 1) (by omega) 11 gk_11 s3) (fun Q => g_callV (M2 := m_Cr_alone) (vs := []) (st := []) lv_RX10_189 gk_11 rfl rfl (Nat.le_of_ble_eq_true rfl) (by omega) (Nat.le_of_ble_eq_true rfl) rfl d_T_pairs_54) (fun q8 => ?_)
        exact S.ret (fun Q hq => g_iret rfl d_T_pairs_57 hq)
def f_Cr_happensOn_j64 (c : Nat) (σ : gS) (k7 : Int32 → Int32 → Int32 → Int32 → Option Int32) (v1 : Int32) (v3 : Int32) (v4 : Int32) (s0 : Int32) (s1 : Int32) : Option Int32 :=
  k7 v1 (s1 + s0) v3 (v4 + (1 : Int32))
theorem s_Cr_happensOn_j64 (d : Nat) (hd : 2 ≤ d) (c : Nat) (hc : gcls c = some 2) (σ : gS) (k7 : Int32 → Int32 → Int32 → Int32 → Option Int32) (hk7 : ∀ (v1 : Int32) (v2 : Int32) (v3 : Int32) (v4 : Int32), S (rI σ) m_Cr_happensOn d 7 [some (.ref c), some (.int v1), some (.int v2), some (.int v3), some (.int v4), none] [] σ (k7 v1 v2 v3 v4)) (v1 : Int32) (v3 : Int32) (v4 : Int32) (s0 : Int32) (s1 : Int32) : S (rI σ) m_Cr_happensOn d 64 [some (.ref c), some (.int v1), none, some (.int v3), some (.int v4), none] [.int s0, .int s1] σ (f_Cr_happensOn_j64 c σ k7 v1 v3 v4 s0 s1) := by
  unfold f_Cr_happensOn_j64
  refine S.of1 (pc2 := 65) (fun Q => g_iadd d_Cr_happensOn_64) ?_
  refine S.of1 (pc2 := 66) (L2 := [some (.ref c), some (.int v1), some (.int (s1 + s0)), some (.int v3), some (.int v4), none]) (fun Q => g_istore_n d_Cr_happensOn_65 (Nat.le_of_ble_eq_true rfl) rfl) ?_
  refine S.of1 (pc2 := 69) (L2 := [some (.ref c), some (.int v1), some (.int (s1 + s0)), some (.int v3), some (.int (v4 + (1 : Int32))), none]) (fun Q => g_iinc d_Cr_happensOn_66 rfl (congrArg (fun z => v4 + z) (by decide)) (Nat.le_of_ble_eq_true rfl) rfl) ?_
  refine S.of1 (pc2 := 7) (fun Q => g_goto d_Cr_happensOn_69 rfl) ?_
  exact S.wk (L2 := [some (.ref c), some (.int v1), some (.int (s1 + s0)), some (.int v3), some (.int (v4 + (1 : Int32))), none]) (And.intro rfl (And.intro rfl (And.intro rfl (And.intro rfl (And.intro rfl trivial))))) (hk7 v1 (s1 + s0) v3 (v4 + (1 : Int32)))
def f_Cr_happensOn_L7 (c : Nat) (σ : gS) : Nat → Int32 → Int32 → Int32 → Int32 → Option Int32
  | 0, _, _, _, _ => none
  | n + 1, v1, v2, v3, v4 =>
  if (σ.1 c 2) ≤ v4 then if v2 ≤ 0 then some (0 : Int32) else (f_JI_bitCount v3).bind fun q3 => if q3 < (2 : Int32) then some (0 : Int32) else some (1 : Int32) else if gix v4 10 then glt ((σ.1 (c + 1) v4.toNatClampNeg) - v1) fun x6 => if x6 < 0 then (fun v1 v2 v3 v4 => f_Cr_happensOn_L7 c σ n v1 v2 v3 v4) v1 v2 v3 (v4 + (1 : Int32)) else if (σ.1 c 3) < x6 then (fun v1 v2 v3 v4 => f_Cr_happensOn_L7 c σ n v1 v2 v3 v4) v1 v2 v3 (v4 + (1 : Int32)) else if gix v4 10 then glt (v3 ||| ((1 : Int32) <<< ((σ.1 (c + 2) v4.toNatClampNeg) &&& 31))) fun x10 => if x6 = 0 then f_Cr_happensOn_j64 c σ (fun v1 v2 v3 v4 => f_Cr_happensOn_L7 c σ n v1 v2 v3 v4) v1 x10 v4 (1 : Int32) v2 else f_Cr_happensOn_j64 c σ (fun v1 v2 v3 v4 => f_Cr_happensOn_L7 c σ n v1 v2 v3 v4) v1 x10 v4 (0 : Int32) v2 else none else none
theorem s_Cr_happensOn_L7 (d : Nat) (hd : 2 ≤ d) (c : Nat) (hc : gcls c = some 2) (σ : gS) : ∀ (n : Nat) (v1 : Int32) (v2 : Int32) (v3 : Int32) (v4 : Int32), S (rI σ) m_Cr_happensOn d 7 [some (.ref c), some (.int v1), some (.int v2), some (.int v3), some (.int v4), none] [] σ (f_Cr_happensOn_L7 c σ n v1 v2 v3 v4) := by
  intro n
  induction n with
  | zero =>
    intros
    unfold f_Cr_happensOn_L7
    exact S.no
  | succ n ih =>
    intro v1 v2 v3 v4
    unfold f_Cr_happensOn_L7
    refine S.of1 (pc2 := 9) (fun Q => g_iload d_Cr_happensOn_7 rfl) ?_
    refine S.of1 (pc2 := 10) (fun Q => g_aload_n d_Cr_happensOn_9 rfl) ?_
    refine S.of1 (pc2 := 13) (fun Q => g_geti fl_RX2_52 (gq_2_2 hc) d_Cr_happensOn_10) ?_
    refine S.br (c := (σ.1 c 2) ≤ v4) (t := 72) (e := 16) (fun Q kt kf => g_icmp_ge d_Cr_happensOn_13 rfl kt kf) (fun h1 => ?_) (fun h1 => ?_)
    · refine S.of1 (pc2 := 73) (fun Q => g_iload_n d_Cr_happensOn_72 rfl) ?_
      refine S.br (c := v2 ≤ 0) (t := 88) (e := 76) (fun Q kt kf => g_if_le d_Cr_happensOn_73 rfl kt kf) (fun h2 => ?_) (fun h2 => ?_)
      · refine S.of1 (pc2 := 89) (fun Q => g_iconst (v := (0 : Int32)) d_Cr_happensOn_88 (by decide)) ?_
        exact S.ret (fun Q hq => g_zret rfl rfl d_Cr_happensOn_89 hq)
      · refine S.of1 (pc2 := 77) (fun Q => g_iload_n d_Cr_happensOn_76 rfl) ?_
        refine S.call_rI (pc3 := 80) rfl (c_JI_bitCount (d - 1) (by omega) v3 σ) (fun Q => g_callS (M2 := m_JI_bitCount) (vs := [.int v3]) (st := []) ls_RX2_107 rfl (Nat.le_of_ble_eq_true rfl) (by omega) (Nat.le_of_ble_eq_true rfl) rfl d_Cr_happensOn_77) (fun q3 => ?_)
        refine S.of1 (pc2 := 81) (fun Q => g_iconst (v := (2 : Int32)) d_Cr_happensOn_80 (by decide)) ?_
        refine S.br (c := q3 < (2 : Int32)) (t := 88) (e := 84) (fun Q kt kf => g_icmp_lt d_Cr_happensOn_81 rfl kt kf) (fun h4 => ?_) (fun h4 => ?_)
        · refine S.of1 (pc2 := 89) (fun Q => g_iconst (v := (0 : Int32)) d_Cr_happensOn_88 (by decide)) ?_
          exact S.ret (fun Q hq => g_zret rfl rfl d_Cr_happensOn_89 hq)
        · refine S.of1 (pc2 := 85) (fun Q => g_iconst (v := (1 : Int32)) d_Cr_happensOn_84 (by decide)) ?_
          refine S.of1 (pc2 := 89) (fun Q => g_goto d_Cr_happensOn_85 rfl) ?_
          exact S.ret (fun Q hq => g_zret rfl rfl d_Cr_happensOn_89 hq)
    · refine S.of1 (pc2 := 17) (fun Q => g_aload_n d_Cr_happensOn_16 rfl) ?_
      refine S.of1 (pc2 := 20) (fun Q => g_getr fl_RX2_9 (gq_2_0 hc) d_Cr_happensOn_17) ?_
      refine S.of1 (pc2 := 22) (fun Q => g_iload d_Cr_happensOn_20 rfl) ?_
      refine S.chk (fun h5 => ?_)
      refine S.of1 (pc2 := 23) (fun Q => g_iald (gp_2_0 hc) (gix_in h5) d_Cr_happensOn_22) ?_
      refine S.of1 (pc2 := 24) (fun Q => g_iload_n d_Cr_happensOn_23 rfl) ?_
      refine S.of1 (pc2 := 25) (fun Q => g_isub d_Cr_happensOn_24) ?_
      refine S.of1 (pc2 := 27) (L2 := [some (.ref c), some (.int v1), some (.int v2), some (.int v3), some (.int v4), some (.int ((σ.1 (c + 1) v4.toNatClampNeg) - v1))]) (fun Q => g_istore d_Cr_happensOn_25 (Nat.le_of_ble_eq_true rfl) rfl) ?_
      refine S.glt (x := ((σ.1 (c + 1) v4.toNatClampNeg) - v1)) (Lf := fun y => [some (.ref c), some (.int v1), some (.int v2), some (.int v3), some (.int v4), some (.int y)]) (fun x6 => ?_)
      refine S.of1 (pc2 := 29) (fun Q => g_iload d_Cr_happensOn_27 rfl) ?_
      refine S.br (c := x6 < 0) (t := 66) (e := 32) (fun Q kt kf => g_if_lt d_Cr_happensOn_29 rfl kt kf) (fun h7 => ?_) (fun h7 => ?_)
      · refine S.of1 (pc2 := 69) (L2 := [some (.ref c), some (.int v1), some (.int v2), some (.int v3), some (.int (v4 + (1 : Int32))), some (.int x6)]) (fun Q => g_iinc d_Cr_happensOn_66 rfl (congrArg (fun z => v4 + z) (by decide)) (Nat.le_of_ble_eq_true rfl) rfl) ?_
        refine S.of1 (pc2 := 7) (fun Q => g_goto d_Cr_happensOn_69 rfl) ?_
        exact S.wk (L2 := [some (.ref c), some (.int v1), some (.int v2), some (.int v3), some (.int (v4 + (1 : Int32))), none]) (And.intro rfl (And.intro rfl (And.intro rfl (And.intro rfl (And.intro rfl trivial))))) (ih v1 v2 v3 (v4 + (1 : Int32)))
      · refine S.of1 (pc2 := 34) (fun Q => g_iload d_Cr_happensOn_32 rfl) ?_
        refine S.of1 (pc2 := 35) (fun Q => g_aload_n d_Cr_happensOn_34 rfl) ?_
        refine S.of1 (pc2 := 38) (fun Q => g_geti fl_RX2_56 (gq_2_3 hc) d_Cr_happensOn_35) ?_
        refine S.br (c := (σ.1 c 3) < x6) (t := 66) (e := 41) (fun Q kt kf => g_icmp_gt d_Cr_happensOn_38 rfl kt kf) (fun h8 => ?_) (fun h8 => ?_)
        · refine S.of1 (pc2 := 69) (L2 := [some (.ref c), some (.int v1), some (.int v2), some (.int v3), some (.int (v4 + (1 : Int32))), some (.int x6)]) (fun Q => g_iinc d_Cr_happensOn_66 rfl (congrArg (fun z => v4 + z) (by decide)) (Nat.le_of_ble_eq_true rfl) rfl) ?_
          refine S.of1 (pc2 := 7) (fun Q => g_goto d_Cr_happensOn_69 rfl) ?_
          exact S.wk (L2 := [some (.ref c), some (.int v1), some (.int v2), some (.int v3), some (.int (v4 + (1 : Int32))), none]) (And.intro rfl (And.intro rfl (And.intro rfl (And.intro rfl (And.intro rfl trivial))))) (ih v1 v2 v3 (v4 + (1 : Int32)))
        · refine S.of1 (pc2 := 42) (fun Q => g_iload_n d_Cr_happensOn_41 rfl) ?_
          refine S.of1 (pc2 := 43) (fun Q => g_iconst (v := (1 : Int32)) d_Cr_happensOn_42 (by decide)) ?_
          refine S.of1 (pc2 := 44) (fun Q => g_aload_n d_Cr_happensOn_43 rfl) ?_
          refine S.of1 (pc2 := 47) (fun Q => g_getr fl_RX2_15 (gq_2_1 hc) d_Cr_happensOn_44) ?_
          refine S.of1 (pc2 := 49) (fun Q => g_iload d_Cr_happensOn_47 rfl) ?_
          refine S.chk (fun h9 => ?_)
          refine S.of1 (pc2 := 50) (fun Q => g_iald (gp_2_1 hc) (gix_in h9) d_Cr_happensOn_49) ?_
          refine S.of1 (pc2 := 51) (fun Q => g_ishl d_Cr_happensOn_50) ?_
          refine S.of1 (pc2 := 52) (fun Q => g_ior d_Cr_happensOn_51) ?_
          refine S.of1 (pc2 := 53) (L2 := [some (.ref c), some (.int v1), some (.int v2), some (.int (v3 ||| ((1 : Int32) <<< ((σ.1 (c + 2) v4.toNatClampNeg) &&& 31)))), some (.int v4), some (.int x6)]) (fun Q => g_istore_n d_Cr_happensOn_52 (Nat.le_of_ble_eq_true rfl) rfl) ?_
          refine S.glt (x := (v3 ||| ((1 : Int32) <<< ((σ.1 (c + 2) v4.toNatClampNeg) &&& 31)))) (Lf := fun y => [some (.ref c), some (.int v1), some (.int v2), some (.int y), some (.int v4), some (.int x6)]) (fun x10 => ?_)
          refine S.of1 (pc2 := 54) (fun Q => g_iload_n d_Cr_happensOn_53 rfl) ?_
          refine S.of1 (pc2 := 56) (fun Q => g_iload d_Cr_happensOn_54 rfl) ?_
          refine S.br (c := x6 = 0) (t := 59) (e := 63) (fun Q kt kf => g_if_ne d_Cr_happensOn_56 rfl kf kt) (fun h11 => ?_) (fun h11 => ?_)
          · refine S.of1 (pc2 := 60) (fun Q => g_iconst (v := (1 : Int32)) d_Cr_happensOn_59 (by decide)) ?_
            refine S.of1 (pc2 := 64) (fun Q => g_goto d_Cr_happensOn_60 rfl) ?_
            exact S.wk (L2 := [some (.ref c), some (.int v1), none, some (.int x10), some (.int v4), none]) (And.intro rfl (And.intro rfl (And.intro rfl (And.intro rfl trivial)))) (s_Cr_happensOn_j64 d hd c hc σ (fun v1 v2 v3 v4 => f_Cr_happensOn_L7 c σ n v1 v2 v3 v4) (fun v1 v2 v3 v4 => ih v1 v2 v3 v4) v1 x10 v4 (1 : Int32) v2)
          · refine S.of1 (pc2 := 64) (fun Q => g_iconst (v := (0 : Int32)) d_Cr_happensOn_63 (by decide)) ?_
            exact S.wk (L2 := [some (.ref c), some (.int v1), none, some (.int x10), some (.int v4), none]) (And.intro rfl (And.intro rfl (And.intro rfl (And.intro rfl trivial)))) (s_Cr_happensOn_j64 d hd c hc σ (fun v1 v2 v3 v4 => f_Cr_happensOn_L7 c σ n v1 v2 v3 v4) (fun v1 v2 v3 v4 => ih v1 v2 v3 v4) v1 x10 v4 (0 : Int32) v2)
def f_Cr_happensOn (c : Nat) (v1 : Int32) (σ : gS) : Option Int32 :=
  f_Cr_happensOn_L7 c σ gfu v1 (0 : Int32) (0 : Int32) (0 : Int32)
theorem c_Cr_happensOn (d : Nat) (hd : 2 ≤ d) (c : Nat) (hc : gcls c = some 2) (v1 : Int32) (σ : gS) : C (rI σ) d m_Cr_happensOn [.ref c, .int v1] σ (f_Cr_happensOn c v1 σ) := by
  unfold f_Cr_happensOn
  refine C.of (by decide +kernel) (Nat.le_of_ble_eq_true rfl) (L := [some (.ref c), some (.int v1), none, none, none, none]) rfl ?_
  refine S.of1 (pc2 := 1) (fun Q => g_iconst (v := (0 : Int32)) d_Cr_happensOn_0 (by decide)) ?_
  refine S.of1 (pc2 := 2) (L2 := [some (.ref c), some (.int v1), some (.int (0 : Int32)), none, none, none]) (fun Q => g_istore_n d_Cr_happensOn_1 (Nat.le_of_ble_eq_true rfl) rfl) ?_
  refine S.of1 (pc2 := 3) (fun Q => g_iconst (v := (0 : Int32)) d_Cr_happensOn_2 (by decide)) ?_
  refine S.of1 (pc2 := 4) (L2 := [some (.ref c), some (.int v1), some (.int (0 : Int32)), some (.int (0 : Int32)), none, none]) (fun Q => g_istore_n d_Cr_happensOn_3 (Nat.le_of_ble_eq_true rfl) rfl) ?_
  refine S.of1 (pc2 := 5) (fun Q => g_iconst (v := (0 : Int32)) d_Cr_happensOn_4 (by decide)) ?_
  refine S.of1 (pc2 := 7) (L2 := [some (.ref c), some (.int v1), some (.int (0 : Int32)), some (.int (0 : Int32)), some (.int (0 : Int32)), none]) (fun Q => g_istore d_Cr_happensOn_5 (Nat.le_of_ble_eq_true rfl) rfl) ?_
  exact S.wk (L2 := [some (.ref c), some (.int v1), some (.int (0 : Int32)), some (.int (0 : Int32)), some (.int (0 : Int32)), none]) (And.intro rfl (And.intro rfl (And.intro rfl (And.intro rfl (And.intro rfl trivial))))) (s_Cr_happensOn_L7 d hd c hc σ gfu v1 (0 : Int32) (0 : Int32) (0 : Int32))
def f_T_strangers (v1 : Int32) (σ : gS) : Option (Int32 × gS) :=
  (f_T_within v1 (6 : Int32)).bind fun q1 => if q1 = 0 then some ((-1 : Int32), σ) else (f_Cr_gatherNow 11 σ).bind fun s3 => (f_Cr_happensOn 11 v1 s3).bind fun q4 => if q4 = 0 then (f_Cr_speakers 11 v1 (v1 + (s3.1 1 8)) s3).bind fun q6 => if q6 ≤ 0 then some ((2 : Int32), s3) else some ((1 : Int32), s3) else some ((0 : Int32), s3)
theorem c_T_strangers (d : Nat) (hd : 6 ≤ d) (v1 : Int32) (σ : gS) : C wI d m_T_strangers [.ref 0, .int v1] σ (f_T_strangers v1 σ) := by
  unfold f_T_strangers
  refine C.of (by decide +kernel) (Nat.le_of_ble_eq_true rfl) (L := [some (.ref 0), some (.int v1)]) rfl ?_
  refine S.of1 (pc2 := 1) (fun Q => g_iload_n d_T_strangers_0 rfl) ?_
  refine S.of1 (pc2 := 3) (fun Q => g_bipush (v := (6 : Int32)) d_T_strangers_1 (by decide)) ?_
  refine S.call_rI (pc3 := 6) rfl (c_T_within (d - 1) (by omega) v1 (6 : Int32) σ) (fun Q => g_callS (M2 := m_T_within) (vs := [.int v1, .int (6 : Int32)]) (st := []) ls_RX10_72 rfl (Nat.le_of_ble_eq_true rfl) (by omega) (Nat.le_of_ble_eq_true rfl) rfl d_T_strangers_3) (fun q1 => ?_)
  refine S.br (c := q1 = 0) (t := 9) (e := 11) (fun Q kt kf => g_if_ne d_T_strangers_6 rfl kf kt) (fun h2 => ?_) (fun h2 => ?_)
  · refine S.of1 (pc2 := 10) (fun Q => g_iconst (v := (-1 : Int32)) d_T_strangers_9 (by decide)) ?_
    exact S.ret (fun Q hq => g_iret rfl d_T_strangers_10 hq)
  · refine S.of1 (pc2 := 12) (fun Q => g_aload_n d_T_strangers_11 rfl) ?_
    refine S.of1 (pc2 := 15) (fun Q => g_getr fl_RX10_19 gc_0_1 d_T_strangers_12) ?_
    refine S.of1 (pc2 := 16) (fun Q => g_aload_n d_T_strangers_15 rfl) ?_
    refine S.of1 (pc2 := 19) (fun Q => g_getr fl_RX10_10 gc_0_0 d_T_strangers_16) ?_
    refine S.call_wV (pc3 := 22) rfl (c_Cr_gatherNow (d - 1) (by omega) 11 gk_11 σ) (fun Q => g_callV (M2 := m_Cr_gatherNow) (vs := [.ref 1]) (st := []) lv_RX10_132 gk_11 rfl rfl (Nat.le_of_ble_eq_true rfl) (by omega) (Nat.le_of_ble_eq_true rfl) rfl d_T_strangers_19) (fun s3 => ?_)
    refine S.of1 (pc2 := 23) (fun Q => g_aload_n d_T_strangers_22 rfl) ?_
    refine S.of1 (pc2 := 26) (fun Q => g_getr fl_RX10_19 gc_0_1 d_T_strangers_23) ?_
    refine S.of1 (pc2 := 27) (fun Q => g_iload_n d_T_strangers_26 rfl) ?_
    refine S.call_rI (pc3 := 30) rfl (c_Cr_happensOn (d - 1) (by omega) 11 gk_11 v1 s3) (fun Q => g_callV (M2 := m_Cr_happensOn) (vs := [.int v1]) (st := []) lv_RX10_192 gk_11 rfl rfl (Nat.le_of_ble_eq_true rfl) (by omega) (Nat.le_of_ble_eq_true rfl) rfl d_T_strangers_27) (fun q4 => ?_)
    refine S.br (c := q4 = 0) (t := 35) (e := 33) (fun Q kt kf => g_if_eq d_T_strangers_30 rfl kt kf) (fun h5 => ?_) (fun h5 => ?_)
    · refine S.of1 (pc2 := 36) (fun Q => g_aload_n d_T_strangers_35 rfl) ?_
      refine S.of1 (pc2 := 39) (fun Q => g_getr fl_RX10_19 gc_0_1 d_T_strangers_36) ?_
      refine S.of1 (pc2 := 40) (fun Q => g_iload_n d_T_strangers_39 rfl) ?_
      refine S.of1 (pc2 := 41) (fun Q => g_iload_n d_T_strangers_40 rfl) ?_
      refine S.of1 (pc2 := 42) (fun Q => g_aload_n d_T_strangers_41 rfl) ?_
      refine S.of1 (pc2 := 45) (fun Q => g_getr fl_RX10_10 gc_0_0 d_T_strangers_42) ?_
      refine S.of1 (pc2 := 48) (fun Q => g_geti fl_RX10_195 gc_1_8 d_T_strangers_45) ?_
      refine S.of1 (pc2 := 49) (fun Q => g_iadd d_T_strangers_48) ?_
      refine S.call_rI (pc3 := 52) rfl (c_Cr_speakers (d - 1) (by omega) 11 gk_11 v1 (v1 + (s3.1 1 8)) s3) (fun Q => g_callV (M2 := m_Cr_speakers) (vs := [.int v1, .int (v1 + (s3.1 1 8))]) (st := []) lv_RX10_143 gk_11 rfl rfl (Nat.le_of_ble_eq_true rfl) (by omega) (Nat.le_of_ble_eq_true rfl) rfl d_T_strangers_49) (fun q6 => ?_)
      refine S.br (c := q6 ≤ 0) (t := 59) (e := 55) (fun Q kt kf => g_if_le d_T_strangers_52 rfl kt kf) (fun h7 => ?_) (fun h7 => ?_)
      · refine S.of1 (pc2 := 60) (fun Q => g_iconst (v := (2 : Int32)) d_T_strangers_59 (by decide)) ?_
        exact S.ret (fun Q hq => g_iret rfl d_T_strangers_60 hq)
      · refine S.of1 (pc2 := 56) (fun Q => g_iconst (v := (1 : Int32)) d_T_strangers_55 (by decide)) ?_
        refine S.of1 (pc2 := 60) (fun Q => g_goto d_T_strangers_56 rfl) ?_
        exact S.ret (fun Q hq => g_iret rfl d_T_strangers_60 hq)
    · refine S.of1 (pc2 := 34) (fun Q => g_iconst (v := (0 : Int32)) d_T_strangers_33 (by decide)) ?_
      exact S.ret (fun Q hq => g_iret rfl d_T_strangers_34 hq)
def f_T_commonDivisor_L9 : Nat → Int64 → Int64 → Int32 → Option Int64
  | 0, _, _, _ => none
  | n + 1, v4, v6, v8 =>
  if (200 : Int32) ≤ v8 then some v4 else if (lg_cmp v6 (0 : Int64)) = 0 then some v4 else if v6 = 0 then none else (fun v4 v6 v8 => f_T_commonDivisor_L9 n v4 v6 v8) v6 (glrem v4 v6) (v8 + (1 : Int32))
theorem s_T_commonDivisor_L9 (d : Nat) (hd : 1 ≤ d) (σ : gS) : ∀ (n : Nat) (v4 : Int64) (v6 : Int64) (v8 : Int32), S (rJ σ) m_T_commonDivisor d 9 [none, none, none, none, some (.long v4), none, some (.long v6), none, some (.int v8), none, none] [] σ (f_T_commonDivisor_L9 n v4 v6 v8) := by
  intro n
  induction n with
  | zero =>
    intros
    unfold f_T_commonDivisor_L9
    exact S.no
  | succ n ih =>
    intro v4 v6 v8
    unfold f_T_commonDivisor_L9
    refine S.of1 (pc2 := 11) (fun Q => g_iload d_T_commonDivisor_9 rfl) ?_
    refine S.of1 (pc2 := 14) (fun Q => g_sipush (v := (200 : Int32)) d_T_commonDivisor_11 (by decide)) ?_
    refine S.br (c := (200 : Int32) ≤ v8) (t := 45) (e := 17) (fun Q kt kf => g_icmp_ge d_T_commonDivisor_14 rfl kt kf) (fun h1 => ?_) (fun h1 => ?_)
    · refine S.of1 (pc2 := 47) (fun Q => g_lload d_T_commonDivisor_45 rfl) ?_
      exact S.ret (fun Q hq => g_lret rfl d_T_commonDivisor_47 hq)
    · refine S.of1 (pc2 := 19) (fun Q => g_lload d_T_commonDivisor_17 rfl) ?_
      refine S.of1 (pc2 := 20) (fun Q => g_lconst (v := (0 : Int64)) d_T_commonDivisor_19 (by decide)) ?_
      refine S.of1 (pc2 := 21) (fun Q => g_lcmp d_T_commonDivisor_20) ?_
      refine S.br (c := (lg_cmp v6 (0 : Int64)) = 0) (t := 45) (e := 24) (fun Q kt kf => g_if_eq d_T_commonDivisor_21 rfl kt kf) (fun h2 => ?_) (fun h2 => ?_)
      · refine S.of1 (pc2 := 47) (fun Q => g_lload d_T_commonDivisor_45 rfl) ?_
        exact S.ret (fun Q hq => g_lret rfl d_T_commonDivisor_47 hq)
      · refine S.of1 (pc2 := 26) (fun Q => g_lload d_T_commonDivisor_24 rfl) ?_
        refine S.of1 (pc2 := 28) (fun Q => g_lload d_T_commonDivisor_26 rfl) ?_
        refine S.nz (fun h3 => ?_)
        refine S.of1 (pc2 := 29) (fun Q => g_lrem d_T_commonDivisor_28 h3) ?_
        refine S.of1 (pc2 := 31) (L2 := [none, none, none, none, some (.long v4), none, some (.long v6), none, some (.int v8), some (.long (glrem v4 v6)), none]) (fun Q => g_lstore d_T_commonDivisor_29 (Nat.le_of_ble_eq_true rfl) rfl) ?_
        refine S.of1 (pc2 := 33) (fun Q => g_lload d_T_commonDivisor_31 rfl) ?_
        refine S.of1 (pc2 := 35) (L2 := [none, none, none, none, some (.long v6), none, some (.long v6), none, some (.int v8), some (.long (glrem v4 v6)), none]) (fun Q => g_lstore d_T_commonDivisor_33 (Nat.le_of_ble_eq_true rfl) rfl) ?_
        refine S.of1 (pc2 := 37) (fun Q => g_lload d_T_commonDivisor_35 rfl) ?_
        refine S.of1 (pc2 := 39) (L2 := [none, none, none, none, some (.long v6), none, some (.long (glrem v4 v6)), none, some (.int v8), some (.long (glrem v4 v6)), none]) (fun Q => g_lstore d_T_commonDivisor_37 (Nat.le_of_ble_eq_true rfl) rfl) ?_
        refine S.of1 (pc2 := 42) (L2 := [none, none, none, none, some (.long v6), none, some (.long (glrem v4 v6)), none, some (.int (v8 + (1 : Int32))), some (.long (glrem v4 v6)), none]) (fun Q => g_iinc d_T_commonDivisor_39 rfl (congrArg (fun z => v8 + z) (by decide)) (Nat.le_of_ble_eq_true rfl) rfl) ?_
        refine S.of1 (pc2 := 9) (fun Q => g_goto d_T_commonDivisor_42 rfl) ?_
        exact S.wk (L2 := [none, none, none, none, some (.long v6), none, some (.long (glrem v4 v6)), none, some (.int (v8 + (1 : Int32))), none, none]) (And.intro rfl (And.intro rfl (And.intro rfl trivial))) (ih v6 (glrem v4 v6) (v8 + (1 : Int32)))
def f_T_commonDivisor (v0 : Int64) (v2 : Int64) : Option Int64 :=
  f_T_commonDivisor_L9 gfu v0 v2 (0 : Int32)
theorem c_T_commonDivisor (d : Nat) (hd : 1 ≤ d) (v0 : Int64) (v2 : Int64) (σ : gS) : C (rJ σ) d m_T_commonDivisor [.long v0, .long v2] σ (f_T_commonDivisor v0 v2) := by
  unfold f_T_commonDivisor
  refine C.of (by decide +kernel) (Nat.le_of_ble_eq_true rfl) (L := [some (.long v0), none, some (.long v2), none, none, none, none, none, none, none, none]) rfl ?_
  refine S.of1 (pc2 := 1) (fun Q => g_lload_n d_T_commonDivisor_0 rfl) ?_
  refine S.of1 (pc2 := 3) (L2 := [some (.long v0), none, some (.long v2), none, some (.long v0), none, none, none, none, none, none]) (fun Q => g_lstore d_T_commonDivisor_1 (Nat.le_of_ble_eq_true rfl) rfl) ?_
  refine S.of1 (pc2 := 4) (fun Q => g_lload_n d_T_commonDivisor_3 rfl) ?_
  refine S.of1 (pc2 := 6) (L2 := [some (.long v0), none, some (.long v2), none, some (.long v0), none, some (.long v2), none, none, none, none]) (fun Q => g_lstore d_T_commonDivisor_4 (Nat.le_of_ble_eq_true rfl) rfl) ?_
  refine S.of1 (pc2 := 7) (fun Q => g_iconst (v := (0 : Int32)) d_T_commonDivisor_6 (by decide)) ?_
  refine S.of1 (pc2 := 9) (L2 := [some (.long v0), none, some (.long v2), none, some (.long v0), none, some (.long v2), none, some (.int (0 : Int32)), none, none]) (fun Q => g_istore d_T_commonDivisor_7 (Nat.le_of_ble_eq_true rfl) rfl) ?_
  exact S.wk (L2 := [none, none, none, none, some (.long v0), none, some (.long v2), none, some (.int (0 : Int32)), none, none]) (And.intro rfl (And.intro rfl (And.intro rfl trivial))) (s_T_commonDivisor_L9 d hd σ gfu v0 v2 (0 : Int32))
def f_T_isTwo (r1 : Nat) (v2 : Int32) (σ : gS) : Option Int32 :=
  (f_Sh_small r1 ((2 : Int32) * v2) σ).bind fun q1 => (f_T_within q1 (σ.1 1 6)).bind fun q2 => if q2 = 0 then some (0 : Int32) else (f_Sh_small r1 (((2 : Int32) * v2) + (1 : Int32)) σ).bind fun q4 => (f_T_within q4 (6 : Int32)).bind fun q5 => if q5 = 0 then some (0 : Int32) else some (1 : Int32)
theorem c_T_isTwo (d : Nat) (hd : 3 ≤ d) (r1 : Nat) (hr1 : gcls r1 = some 8) (v2 : Int32) (σ : gS) : C (rI σ) d m_T_isTwo [.ref 0, .ref r1, .int v2] σ (f_T_isTwo r1 v2 σ) := by
  unfold f_T_isTwo
  refine C.of (by decide +kernel) (Nat.le_of_ble_eq_true rfl) (L := [some (.ref 0), some (.ref r1), some (.int v2)]) rfl ?_
  refine S.of1 (pc2 := 1) (fun Q => g_aload_n d_T_isTwo_0 rfl) ?_
  refine S.of1 (pc2 := 2) (fun Q => g_iconst (v := (2 : Int32)) d_T_isTwo_1 (by decide)) ?_
  refine S.of1 (pc2 := 3) (fun Q => g_iload_n d_T_isTwo_2 rfl) ?_
  refine S.of1 (pc2 := 4) (fun Q => g_imul d_T_isTwo_3) ?_
  refine S.call_rI (pc3 := 7) rfl (c_Sh_small (d - 1) (by omega) r1 hr1 ((2 : Int32) * v2) σ) (fun Q => g_callV (M2 := m_Sh_small) (vs := [.int ((2 : Int32) * v2)]) (st := []) lv_RX10_149 hr1 rfl rfl (Nat.le_of_ble_eq_true rfl) (by omega) (Nat.le_of_ble_eq_true rfl) rfl d_T_isTwo_4) (fun q1 => ?_)
  refine S.of1 (pc2 := 8) (fun Q => g_aload_n d_T_isTwo_7 rfl) ?_
  refine S.of1 (pc2 := 11) (fun Q => g_getr fl_RX10_10 gc_0_0 d_T_isTwo_8) ?_
  refine S.of1 (pc2 := 14) (fun Q => g_geti fl_RX10_126 gc_1_6 d_T_isTwo_11) ?_
  refine S.call_rI (pc3 := 17) rfl (c_T_within (d - 1) (by omega) q1 (σ.1 1 6) σ) (fun Q => g_callS (M2 := m_T_within) (vs := [.int q1, .int (σ.1 1 6)]) (st := []) ls_RX10_72 rfl (Nat.le_of_ble_eq_true rfl) (by omega) (Nat.le_of_ble_eq_true rfl) rfl d_T_isTwo_14) (fun q2 => ?_)
  refine S.br (c := q2 = 0) (t := 41) (e := 20) (fun Q kt kf => g_if_eq d_T_isTwo_17 rfl kt kf) (fun h3 => ?_) (fun h3 => ?_)
  · refine S.of1 (pc2 := 42) (fun Q => g_iconst (v := (0 : Int32)) d_T_isTwo_41 (by decide)) ?_
    exact S.ret (fun Q hq => g_zret rfl rfl d_T_isTwo_42 hq)
  · refine S.of1 (pc2 := 21) (fun Q => g_aload_n d_T_isTwo_20 rfl) ?_
    refine S.of1 (pc2 := 22) (fun Q => g_iconst (v := (2 : Int32)) d_T_isTwo_21 (by decide)) ?_
    refine S.of1 (pc2 := 23) (fun Q => g_iload_n d_T_isTwo_22 rfl) ?_
    refine S.of1 (pc2 := 24) (fun Q => g_imul d_T_isTwo_23) ?_
    refine S.of1 (pc2 := 25) (fun Q => g_iconst (v := (1 : Int32)) d_T_isTwo_24 (by decide)) ?_
    refine S.of1 (pc2 := 26) (fun Q => g_iadd d_T_isTwo_25) ?_
    refine S.call_rI (pc3 := 29) rfl (c_Sh_small (d - 1) (by omega) r1 hr1 (((2 : Int32) * v2) + (1 : Int32)) σ) (fun Q => g_callV (M2 := m_Sh_small) (vs := [.int (((2 : Int32) * v2) + (1 : Int32))]) (st := []) lv_RX10_149 hr1 rfl rfl (Nat.le_of_ble_eq_true rfl) (by omega) (Nat.le_of_ble_eq_true rfl) rfl d_T_isTwo_26) (fun q4 => ?_)
    refine S.of1 (pc2 := 31) (fun Q => g_bipush (v := (6 : Int32)) d_T_isTwo_29 (by decide)) ?_
    refine S.call_rI (pc3 := 34) rfl (c_T_within (d - 1) (by omega) q4 (6 : Int32) σ) (fun Q => g_callS (M2 := m_T_within) (vs := [.int q4, .int (6 : Int32)]) (st := []) ls_RX10_72 rfl (Nat.le_of_ble_eq_true rfl) (by omega) (Nat.le_of_ble_eq_true rfl) rfl d_T_isTwo_31) (fun q5 => ?_)
    refine S.br (c := q5 = 0) (t := 41) (e := 37) (fun Q kt kf => g_if_eq d_T_isTwo_34 rfl kt kf) (fun h6 => ?_) (fun h6 => ?_)
    · refine S.of1 (pc2 := 42) (fun Q => g_iconst (v := (0 : Int32)) d_T_isTwo_41 (by decide)) ?_
      exact S.ret (fun Q hq => g_zret rfl rfl d_T_isTwo_42 hq)
    · refine S.of1 (pc2 := 38) (fun Q => g_iconst (v := (1 : Int32)) d_T_isTwo_37 (by decide)) ?_
      refine S.of1 (pc2 := 42) (fun Q => g_goto d_T_isTwo_38 rfl) ?_
      exact S.ret (fun Q hq => g_zret rfl rfl d_T_isTwo_42 hq)
def f_T_weight_j69 (r1 : Nat) (σ : gS) (k5 : Int32 → Int64 → Int32 → Option Int64) (v2 : Int32) (v5 : Int32) (s0 : Int64) (s1 : Int64) : Option Int64 :=
  k5 v2 (s1 * s0) (v5 + (1 : Int32))
theorem s_T_weight_j69 (d : Nat) (hd : 4 ≤ d) (r1 : Nat) (hr1 : gcls r1 = some 8) (σ : gS) (k5 : Int32 → Int64 → Int32 → Option Int64) (hk5 : ∀ (v2 : Int32) (v3 : Int64) (v5 : Int32), S (rJ σ) m_T_weight d 5 [some (.ref 0), some (.ref r1), some (.int v2), some (.long v3), none, some (.int v5), none] [] σ (k5 v2 v3 v5)) (v2 : Int32) (v5 : Int32) (s0 : Int64) (s1 : Int64) : S (rJ σ) m_T_weight d 69 [some (.ref 0), some (.ref r1), some (.int v2), none, none, some (.int v5), none] [.long s0, .long s1] σ (f_T_weight_j69 r1 σ k5 v2 v5 s0 s1) := by
  unfold f_T_weight_j69
  refine S.of1 (pc2 := 70) (fun Q => g_lmul d_T_weight_69) ?_
  refine S.of1 (pc2 := 71) (L2 := [some (.ref 0), some (.ref r1), some (.int v2), some (.long (s1 * s0)), none, some (.int v5), none]) (fun Q => g_lstore_n d_T_weight_70 (Nat.le_of_ble_eq_true rfl) rfl) ?_
  refine S.of1 (pc2 := 74) (L2 := [some (.ref 0), some (.ref r1), some (.int v2), some (.long (s1 * s0)), none, some (.int (v5 + (1 : Int32))), none]) (fun Q => g_iinc d_T_weight_71 rfl (congrArg (fun z => v5 + z) (by decide)) (Nat.le_of_ble_eq_true rfl) rfl) ?_
  refine S.of1 (pc2 := 5) (fun Q => g_goto d_T_weight_74 rfl) ?_
  exact S.wk (L2 := [some (.ref 0), some (.ref r1), some (.int v2), some (.long (s1 * s0)), none, some (.int (v5 + (1 : Int32))), none]) (And.intro rfl (And.intro rfl (And.intro rfl (And.intro rfl (And.intro rfl trivial))))) (hk5 v2 (s1 * s0) (v5 + (1 : Int32)))
def f_T_weight_L5 (r1 : Nat) (σ : gS) : Nat → Int32 → Int64 → Int32 → Option Int64
  | 0, _, _, _ => none
  | n + 1, v2, v3, v5 =>
  if (8 : Int32) ≤ v5 then some v3 else (f_T_isTwo r1 v5 σ).bind fun q2 => if q2 = 0 then some v3 else (f_Sh_small r1 ((2 : Int32) * v5) σ).bind fun q4 => if gix q4 10 then glt (σ.1 3 q4.toNatClampNeg) fun x6 => (f_Sh_small r1 (((2 : Int32) * v5) + (1 : Int32)) σ).bind fun q7 => if q7 = v2 then f_T_weight_j69 r1 σ (fun v2 v3 v5 => f_T_weight_L5 r1 σ n v2 v3 v5) v2 v5 (((5 : Int32) * x6).toInt64) v3 else f_T_weight_j69 r1 σ (fun v2 v3 v5 => f_T_weight_L5 r1 σ n v2 v3 v5) v2 v5 (((12 : Int32) - x6).toInt64) v3 else none
theorem s_T_weight_L5 (d : Nat) (hd : 4 ≤ d) (r1 : Nat) (hr1 : gcls r1 = some 8) (σ : gS) : ∀ (n : Nat) (v2 : Int32) (v3 : Int64) (v5 : Int32), S (rJ σ) m_T_weight d 5 [some (.ref 0), some (.ref r1), some (.int v2), some (.long v3), none, some (.int v5), none] [] σ (f_T_weight_L5 r1 σ n v2 v3 v5) := by
  intro n
  induction n with
  | zero =>
    intros
    unfold f_T_weight_L5
    exact S.no
  | succ n ih =>
    intro v2 v3 v5
    unfold f_T_weight_L5
    refine S.of1 (pc2 := 7) (fun Q => g_iload d_T_weight_5 rfl) ?_
    refine S.of1 (pc2 := 9) (fun Q => g_bipush (v := (8 : Int32)) d_T_weight_7 (by decide)) ?_
    refine S.br (c := (8 : Int32) ≤ v5) (t := 77) (e := 12) (fun Q kt kf => g_icmp_ge d_T_weight_9 rfl kt kf) (fun h1 => ?_) (fun h1 => ?_)
    · refine S.of1 (pc2 := 78) (fun Q => g_lload_n d_T_weight_77 rfl) ?_
      exact S.ret (fun Q hq => g_lret rfl d_T_weight_78 hq)
    · refine S.of1 (pc2 := 13) (fun Q => g_aload_n d_T_weight_12 rfl) ?_
      refine S.of1 (pc2 := 14) (fun Q => g_aload_n d_T_weight_13 rfl) ?_
      refine S.of1 (pc2 := 16) (fun Q => g_iload d_T_weight_14 rfl) ?_
      refine S.call_rI (pc3 := 19) rfl (c_T_isTwo (d - 1) (by omega) r1 hr1 v5 σ) (fun Q => g_callV (M2 := m_T_isTwo) (vs := [.ref r1, .int v5]) (st := []) lv_RX10_359 gk_0 rfl rfl (Nat.le_of_ble_eq_true rfl) (by omega) (Nat.le_of_ble_eq_true rfl) rfl d_T_weight_16) (fun q2 => ?_)
      refine S.br (c := q2 = 0) (t := 77) (e := 22) (fun Q kt kf => g_if_eq d_T_weight_19 rfl kt kf) (fun h3 => ?_) (fun h3 => ?_)
      · refine S.of1 (pc2 := 78) (fun Q => g_lload_n d_T_weight_77 rfl) ?_
        exact S.ret (fun Q hq => g_lret rfl d_T_weight_78 hq)
      · refine S.of1 (pc2 := 23) (fun Q => g_aload_n d_T_weight_22 rfl) ?_
        refine S.of1 (pc2 := 26) (fun Q => g_getr fl_RX10_10 gc_0_0 d_T_weight_23) ?_
        refine S.of1 (pc2 := 29) (fun Q => g_getr fl_RX10_363 gc_1_1 d_T_weight_26) ?_
        refine S.of1 (pc2 := 30) (fun Q => g_aload_n d_T_weight_29 rfl) ?_
        refine S.of1 (pc2 := 31) (fun Q => g_iconst (v := (2 : Int32)) d_T_weight_30 (by decide)) ?_
        refine S.of1 (pc2 := 33) (fun Q => g_iload d_T_weight_31 rfl) ?_
        refine S.of1 (pc2 := 34) (fun Q => g_imul d_T_weight_33) ?_
        refine S.call_rI (pc3 := 37) rfl (c_Sh_small (d - 1) (by omega) r1 hr1 ((2 : Int32) * v5) σ) (fun Q => g_callV (M2 := m_Sh_small) (vs := [.int ((2 : Int32) * v5)]) (st := [.ref 3]) lv_RX10_149 hr1 rfl rfl (Nat.le_of_ble_eq_true rfl) (by omega) (Nat.le_of_ble_eq_true rfl) rfl d_T_weight_34) (fun q4 => ?_)
        refine S.chk (fun h5 => ?_)
        refine S.of1 (pc2 := 38) (fun Q => g_iald ga_3 (gix_in h5) d_T_weight_37) ?_
        refine S.of1 (pc2 := 40) (L2 := [some (.ref 0), some (.ref r1), some (.int v2), some (.long v3), none, some (.int v5), some (.int (σ.1 3 q4.toNatClampNeg))]) (fun Q => g_istore d_T_weight_38 (Nat.le_of_ble_eq_true rfl) rfl) ?_
        refine S.glt (x := (σ.1 3 q4.toNatClampNeg)) (Lf := fun y => [some (.ref 0), some (.ref r1), some (.int v2), some (.long v3), none, some (.int v5), some (.int y)]) (fun x6 => ?_)
        refine S.of1 (pc2 := 41) (fun Q => g_lload_n d_T_weight_40 rfl) ?_
        refine S.of1 (pc2 := 42) (fun Q => g_aload_n d_T_weight_41 rfl) ?_
        refine S.of1 (pc2 := 43) (fun Q => g_iconst (v := (2 : Int32)) d_T_weight_42 (by decide)) ?_
        refine S.of1 (pc2 := 45) (fun Q => g_iload d_T_weight_43 rfl) ?_
        refine S.of1 (pc2 := 46) (fun Q => g_imul d_T_weight_45) ?_
        refine S.of1 (pc2 := 47) (fun Q => g_iconst (v := (1 : Int32)) d_T_weight_46 (by decide)) ?_
        refine S.of1 (pc2 := 48) (fun Q => g_iadd d_T_weight_47) ?_
        refine S.call_rI (pc3 := 51) rfl (c_Sh_small (d - 1) (by omega) r1 hr1 (((2 : Int32) * v5) + (1 : Int32)) σ) (fun Q => g_callV (M2 := m_Sh_small) (vs := [.int (((2 : Int32) * v5) + (1 : Int32))]) (st := [.long v3]) lv_RX10_149 hr1 rfl rfl (Nat.le_of_ble_eq_true rfl) (by omega) (Nat.le_of_ble_eq_true rfl) rfl d_T_weight_48) (fun q7 => ?_)
        refine S.of1 (pc2 := 52) (fun Q => g_iload_n d_T_weight_51 rfl) ?_
        refine S.br (c := q7 = v2) (t := 55) (e := 63) (fun Q kt kf => g_icmp_ne d_T_weight_52 rfl kf kt) (fun h8 => ?_) (fun h8 => ?_)
        · refine S.of1 (pc2 := 56) (fun Q => g_iconst (v := (5 : Int32)) d_T_weight_55 (by decide)) ?_
          refine S.of1 (pc2 := 58) (fun Q => g_iload d_T_weight_56 rfl) ?_
          refine S.of1 (pc2 := 59) (fun Q => g_imul d_T_weight_58) ?_
          refine S.of1 (pc2 := 60) (fun Q => g_i2l d_T_weight_59) ?_
          refine S.of1 (pc2 := 69) (fun Q => g_goto d_T_weight_60 rfl) ?_
          exact S.wk (L2 := [some (.ref 0), some (.ref r1), some (.int v2), none, none, some (.int v5), none]) (And.intro rfl (And.intro rfl (And.intro rfl (And.intro rfl trivial)))) (s_T_weight_j69 d hd r1 hr1 σ (fun v2 v3 v5 => f_T_weight_L5 r1 σ n v2 v3 v5) (fun v2 v3 v5 => ih v2 v3 v5) v2 v5 (((5 : Int32) * x6).toInt64) v3)
        · refine S.of1 (pc2 := 65) (fun Q => g_bipush (v := (12 : Int32)) d_T_weight_63 (by decide)) ?_
          refine S.of1 (pc2 := 67) (fun Q => g_iload d_T_weight_65 rfl) ?_
          refine S.of1 (pc2 := 68) (fun Q => g_isub d_T_weight_67) ?_
          refine S.of1 (pc2 := 69) (fun Q => g_i2l d_T_weight_68) ?_
          exact S.wk (L2 := [some (.ref 0), some (.ref r1), some (.int v2), none, none, some (.int v5), none]) (And.intro rfl (And.intro rfl (And.intro rfl (And.intro rfl trivial)))) (s_T_weight_j69 d hd r1 hr1 σ (fun v2 v3 v5 => f_T_weight_L5 r1 σ n v2 v3 v5) (fun v2 v3 v5 => ih v2 v3 v5) v2 v5 (((12 : Int32) - x6).toInt64) v3)
def f_T_weight (r1 : Nat) (v2 : Int32) (σ : gS) : Option Int64 :=
  f_T_weight_L5 r1 σ gfu v2 (1 : Int64) (0 : Int32)
theorem c_T_weight (d : Nat) (hd : 4 ≤ d) (r1 : Nat) (hr1 : gcls r1 = some 8) (v2 : Int32) (σ : gS) : C (rJ σ) d m_T_weight [.ref 0, .ref r1, .int v2] σ (f_T_weight r1 v2 σ) := by
  unfold f_T_weight
  refine C.of (by decide +kernel) (Nat.le_of_ble_eq_true rfl) (L := [some (.ref 0), some (.ref r1), some (.int v2), none, none, none, none]) rfl ?_
  refine S.of1 (pc2 := 1) (fun Q => g_lconst (v := (1 : Int64)) d_T_weight_0 (by decide)) ?_
  refine S.of1 (pc2 := 2) (L2 := [some (.ref 0), some (.ref r1), some (.int v2), some (.long (1 : Int64)), none, none, none]) (fun Q => g_lstore_n d_T_weight_1 (Nat.le_of_ble_eq_true rfl) rfl) ?_
  refine S.of1 (pc2 := 3) (fun Q => g_iconst (v := (0 : Int32)) d_T_weight_2 (by decide)) ?_
  refine S.of1 (pc2 := 5) (L2 := [some (.ref 0), some (.ref r1), some (.int v2), some (.long (1 : Int64)), none, some (.int (0 : Int32)), none]) (fun Q => g_istore d_T_weight_3 (Nat.le_of_ble_eq_true rfl) rfl) ?_
  exact S.wk (L2 := [some (.ref 0), some (.ref r1), some (.int v2), some (.long (1 : Int64)), none, some (.int (0 : Int32)), none]) (And.intro rfl (And.intro rfl (And.intro rfl (And.intro rfl (And.intro rfl trivial))))) (s_T_weight_L5 d hd r1 hr1 σ gfu v2 (1 : Int64) (0 : Int32))
def f_T_likely_L65 (σ : gS) : Nat → Int32 → Nat → Int64 → Int64 → Int32 → Option Int64
  | 0, _, _, _, _, _ => none
  | n + 1, v3, q4, v5, v7, v9 =>
  if (6 : Int32) ≤ v9 then (f_T_commonDivisor v7 v5).bind fun q12 => if (lg_cmp q12 (0 : Int64)) = 0 then some (v3.toInt64) else if v3 = 0 then if q12 = 0 then none else some (v5 / q12) else if q12 = 0 then none else some (v7 / q12) else (f_T_weight q4 v9 σ).bind fun q17 => (fun v3 q4 v5 v7 v9 => f_T_likely_L65 σ n v3 q4 v5 v7 v9) v3 q4 v5 (v7 + q17) (v9 + (1 : Int32))
theorem s_T_likely_L65 (d : Nat) (hd : 5 ≤ d) (σ : gS) : ∀ (n : Nat) (v3 : Int32) (q4 : Nat) (hq4 : gcls q4 = some 8) (v5 : Int64) (v7 : Int64) (v9 : Int32), S (rJ σ) m_T_likely d 65 [some (.ref 0), none, none, some (.int v3), some (.ref q4), some (.long v5), none, some (.long v7), none, some (.int v9), none] [] σ (f_T_likely_L65 σ n v3 q4 v5 v7 v9) := by
  intro n
  induction n with
  | zero =>
    intros
    unfold f_T_likely_L65
    exact S.no
  | succ n ih =>
    intro v3 q4 hq4 v5 v7 v9
    unfold f_T_likely_L65
    refine S.of1 (pc2 := 67) (fun Q => g_iload d_T_likely_65 rfl) ?_
    refine S.of1 (pc2 := 69) (fun Q => g_bipush (v := (6 : Int32)) d_T_likely_67 (by decide)) ?_
    refine S.br (c := (6 : Int32) ≤ v9) (t := 91) (e := 72) (fun Q kt kf => g_icmp_ge d_T_likely_69 rfl kt kf) (fun h11 => ?_) (fun h11 => ?_)
    · refine S.of1 (pc2 := 93) (fun Q => g_lload d_T_likely_91 rfl) ?_
      refine S.of1 (pc2 := 95) (fun Q => g_lload d_T_likely_93 rfl) ?_
      refine S.call_rJ (pc3 := 98) rfl (c_T_commonDivisor (d - 1) (by omega) v7 v5 σ) (fun Q => g_callS (M2 := m_T_commonDivisor) (vs := [.long v7, .long v5]) (st := []) ls_RX10_206 rfl (Nat.le_of_ble_eq_true rfl) (by omega) (Nat.le_of_ble_eq_true rfl) rfl d_T_likely_95) (fun q12 => ?_)
      refine S.of1 (pc2 := 100) (L2 := [some (.ref 0), none, none, some (.int v3), some (.ref q4), some (.long v5), none, some (.long v7), none, some (.long q12), none]) (fun Q => g_lstore d_T_likely_98 (Nat.le_of_ble_eq_true rfl) rfl) ?_
      refine S.of1 (pc2 := 102) (fun Q => g_lload d_T_likely_100 rfl) ?_
      refine S.of1 (pc2 := 103) (fun Q => g_lconst (v := (0 : Int64)) d_T_likely_102 (by decide)) ?_
      refine S.of1 (pc2 := 104) (fun Q => g_lcmp d_T_likely_103) ?_
      refine S.br (c := (lg_cmp q12 (0 : Int64)) = 0) (t := 107) (e := 110) (fun Q kt kf => g_if_ne d_T_likely_104 rfl kf kt) (fun h13 => ?_) (fun h13 => ?_)
      · refine S.of1 (pc2 := 108) (fun Q => g_iload_n d_T_likely_107 rfl) ?_
        refine S.of1 (pc2 := 109) (fun Q => g_i2l d_T_likely_108) ?_
        exact S.ret (fun Q hq => g_lret rfl d_T_likely_109 hq)
      · refine S.of1 (pc2 := 111) (fun Q => g_iload_n d_T_likely_110 rfl) ?_
        refine S.br (c := v3 = 0) (t := 114) (e := 119) (fun Q kt kf => g_if_ne d_T_likely_111 rfl kf kt) (fun h14 => ?_) (fun h14 => ?_)
        · refine S.of1 (pc2 := 116) (fun Q => g_lload d_T_likely_114 rfl) ?_
          refine S.of1 (pc2 := 121) (fun Q => g_goto d_T_likely_116 rfl) ?_
          refine S.of1 (pc2 := 123) (fun Q => g_lload d_T_likely_121 rfl) ?_
          refine S.nz (fun h15 => ?_)
          refine S.of1 (pc2 := 124) (fun Q => g_ldiv d_T_likely_123 h15) ?_
          exact S.ret (fun Q hq => g_lret rfl d_T_likely_124 hq)
        · refine S.of1 (pc2 := 121) (fun Q => g_lload d_T_likely_119 rfl) ?_
          refine S.of1 (pc2 := 123) (fun Q => g_lload d_T_likely_121 rfl) ?_
          refine S.nz (fun h16 => ?_)
          refine S.of1 (pc2 := 124) (fun Q => g_ldiv d_T_likely_123 h16) ?_
          exact S.ret (fun Q hq => g_lret rfl d_T_likely_124 hq)
    · refine S.of1 (pc2 := 74) (fun Q => g_lload d_T_likely_72 rfl) ?_
      refine S.of1 (pc2 := 75) (fun Q => g_aload_n d_T_likely_74 rfl) ?_
      refine S.of1 (pc2 := 77) (fun Q => g_aload d_T_likely_75 rfl) ?_
      refine S.of1 (pc2 := 79) (fun Q => g_iload d_T_likely_77 rfl) ?_
      refine S.call_rJ (pc3 := 82) rfl (c_T_weight (d - 1) (by omega) q4 hq4 v9 σ) (fun Q => g_callV (M2 := m_T_weight) (vs := [.ref q4, .int v9]) (st := [.long v7]) lv_RX10_202 gk_0 rfl rfl (Nat.le_of_ble_eq_true rfl) (by omega) (Nat.le_of_ble_eq_true rfl) rfl d_T_likely_79) (fun q17 => ?_)
      refine S.of1 (pc2 := 83) (fun Q => g_ladd d_T_likely_82) ?_
      refine S.of1 (pc2 := 85) (L2 := [some (.ref 0), none, none, some (.int v3), some (.ref q4), some (.long v5), none, some (.long (v7 + q17)), none, some (.int v9), none]) (fun Q => g_lstore d_T_likely_83 (Nat.le_of_ble_eq_true rfl) rfl) ?_
      refine S.of1 (pc2 := 88) (L2 := [some (.ref 0), none, none, some (.int v3), some (.ref q4), some (.long v5), none, some (.long (v7 + q17)), none, some (.int (v9 + (1 : Int32))), none]) (fun Q => g_iinc d_T_likely_85 rfl (congrArg (fun z => v9 + z) (by decide)) (Nat.le_of_ble_eq_true rfl) rfl) ?_
      refine S.of1 (pc2 := 65) (fun Q => g_goto d_T_likely_88 rfl) ?_
      exact S.wk (L2 := [some (.ref 0), none, none, some (.int v3), some (.ref q4), some (.long v5), none, some (.long (v7 + q17)), none, some (.int (v9 + (1 : Int32))), none]) (And.intro rfl (And.intro rfl (And.intro rfl (And.intro rfl (And.intro rfl (And.intro rfl trivial)))))) (ih v3 q4 hq4 v5 (v7 + q17) (v9 + (1 : Int32)))
def f_T_likely (v1 : Int32) (v2 : Int32) (v3 : Int32) (σ : gS) : Option Int64 :=
  (f_T_within v1 (6 : Int32)).bind fun q1 => if q1 = 0 then some (-9223372036854775808 : Int64) else (f_T_within v2 (6 : Int32)).bind fun q3 => if q3 = 0 then some (-9223372036854775808 : Int64) else (f_T_within v3 (2 : Int32)).bind fun q5 => if q5 = 0 then some (-9223372036854775808 : Int64) else if gix v1 6 then (f_Sh_isOfBytes (gshc v1) σ).bind fun q8 => if q8 = 0 then some (-9223372036854775808 : Int64) else (f_T_weight (gshc v1) v2 σ).bind fun q10 => f_T_likely_L65 σ gfu v3 (gshc v1) q10 (0 : Int64) (0 : Int32) else none
theorem c_T_likely (d : Nat) (hd : 5 ≤ d) (v1 : Int32) (v2 : Int32) (v3 : Int32) (σ : gS) : C (rJ σ) d m_T_likely [.ref 0, .int v1, .int v2, .int v3] σ (f_T_likely v1 v2 v3 σ) := by
  unfold f_T_likely
  refine C.of (by decide +kernel) (Nat.le_of_ble_eq_true rfl) (L := [some (.ref 0), some (.int v1), some (.int v2), some (.int v3), none, none, none, none, none, none, none]) rfl ?_
  refine S.of1 (pc2 := 1) (fun Q => g_iload_n d_T_likely_0 rfl) ?_
  refine S.of1 (pc2 := 3) (fun Q => g_bipush (v := (6 : Int32)) d_T_likely_1 (by decide)) ?_
  refine S.call_rI (pc3 := 6) rfl (c_T_within (d - 1) (by omega) v1 (6 : Int32) σ) (fun Q => g_callS (M2 := m_T_within) (vs := [.int v1, .int (6 : Int32)]) (st := []) ls_RX10_72 rfl (Nat.le_of_ble_eq_true rfl) (by omega) (Nat.le_of_ble_eq_true rfl) rfl d_T_likely_3) (fun q1 => ?_)
  refine S.br (c := q1 = 0) (t := 26) (e := 9) (fun Q kt kf => g_if_eq d_T_likely_6 rfl kt kf) (fun h2 => ?_) (fun h2 => ?_)
  · refine S.of1 (pc2 := 29) (fun Q => g_ldc2 (v := (-9223372036854775808 : Int64)) d_T_likely_26 w_870) ?_
    exact S.ret (fun Q hq => g_lret rfl d_T_likely_29 hq)
  · refine S.of1 (pc2 := 10) (fun Q => g_iload_n d_T_likely_9 rfl) ?_
    refine S.of1 (pc2 := 12) (fun Q => g_bipush (v := (6 : Int32)) d_T_likely_10 (by decide)) ?_
    refine S.call_rI (pc3 := 15) rfl (c_T_within (d - 1) (by omega) v2 (6 : Int32) σ) (fun Q => g_callS (M2 := m_T_within) (vs := [.int v2, .int (6 : Int32)]) (st := []) ls_RX10_72 rfl (Nat.le_of_ble_eq_true rfl) (by omega) (Nat.le_of_ble_eq_true rfl) rfl d_T_likely_12) (fun q3 => ?_)
    refine S.br (c := q3 = 0) (t := 26) (e := 18) (fun Q kt kf => g_if_eq d_T_likely_15 rfl kt kf) (fun h4 => ?_) (fun h4 => ?_)
    · refine S.of1 (pc2 := 29) (fun Q => g_ldc2 (v := (-9223372036854775808 : Int64)) d_T_likely_26 w_870) ?_
      exact S.ret (fun Q hq => g_lret rfl d_T_likely_29 hq)
    · refine S.of1 (pc2 := 19) (fun Q => g_iload_n d_T_likely_18 rfl) ?_
      refine S.of1 (pc2 := 20) (fun Q => g_iconst (v := (2 : Int32)) d_T_likely_19 (by decide)) ?_
      refine S.call_rI (pc3 := 23) rfl (c_T_within (d - 1) (by omega) v3 (2 : Int32) σ) (fun Q => g_callS (M2 := m_T_within) (vs := [.int v3, .int (2 : Int32)]) (st := []) ls_RX10_72 rfl (Nat.le_of_ble_eq_true rfl) (by omega) (Nat.le_of_ble_eq_true rfl) rfl d_T_likely_20) (fun q5 => ?_)
      refine S.br (c := q5 = 0) (t := 26) (e := 30) (fun Q kt kf => g_if_ne d_T_likely_23 rfl kf kt) (fun h6 => ?_) (fun h6 => ?_)
      · refine S.of1 (pc2 := 29) (fun Q => g_ldc2 (v := (-9223372036854775808 : Int64)) d_T_likely_26 w_870) ?_
        exact S.ret (fun Q hq => g_lret rfl d_T_likely_29 hq)
      · refine S.of1 (pc2 := 31) (fun Q => g_aload_n d_T_likely_30 rfl) ?_
        refine S.of1 (pc2 := 34) (fun Q => g_getr fl_RX10_67 gc_0_8 d_T_likely_31) ?_
        refine S.of1 (pc2 := 35) (fun Q => g_iload_n d_T_likely_34 rfl) ?_
        refine S.chk (fun h7 => ?_)
        refine S.of1 (pc2 := 36) (fun Q => g_aald gra_46 (gix_in h7) (gsh_get h7) d_T_likely_35) ?_
        refine S.of1 (pc2 := 38) (L2 := [some (.ref 0), some (.int v1), some (.int v2), some (.int v3), some (.ref (gshc v1)), none, none, none, none, none, none]) (fun Q => g_astore d_T_likely_36 (Nat.le_of_ble_eq_true rfl) rfl) ?_
        refine S.of1 (pc2 := 40) (fun Q => g_aload d_T_likely_38 rfl) ?_
        refine S.call_rI (pc3 := 43) rfl (c_Sh_isOfBytes (d - 1) (by omega) (gshc v1) (gsh_cls h7) σ) (fun Q => g_callV (M2 := m_Sh_isOfBytes) (vs := []) (st := []) lv_RX10_84 (gsh_cls h7) rfl rfl (Nat.le_of_ble_eq_true rfl) (by omega) (Nat.le_of_ble_eq_true rfl) rfl d_T_likely_40) (fun q8 => ?_)
        refine S.br (c := q8 = 0) (t := 46) (e := 50) (fun Q kt kf => g_if_ne d_T_likely_43 rfl kf kt) (fun h9 => ?_) (fun h9 => ?_)
        · refine S.of1 (pc2 := 49) (fun Q => g_ldc2 (v := (-9223372036854775808 : Int64)) d_T_likely_46 w_870) ?_
          exact S.ret (fun Q hq => g_lret rfl d_T_likely_49 hq)
        · refine S.of1 (pc2 := 51) (fun Q => g_aload_n d_T_likely_50 rfl) ?_
          refine S.of1 (pc2 := 53) (fun Q => g_aload d_T_likely_51 rfl) ?_
          refine S.of1 (pc2 := 54) (fun Q => g_iload_n d_T_likely_53 rfl) ?_
          refine S.call_rJ (pc3 := 57) rfl (c_T_weight (d - 1) (by omega) (gshc v1) (gsh_cls h7) v2 σ) (fun Q => g_callV (M2 := m_T_weight) (vs := [.ref (gshc v1), .int v2]) (st := []) lv_RX10_202 gk_0 rfl rfl (Nat.le_of_ble_eq_true rfl) (by omega) (Nat.le_of_ble_eq_true rfl) rfl d_T_likely_54) (fun q10 => ?_)
          refine S.of1 (pc2 := 59) (L2 := [some (.ref 0), some (.int v1), some (.int v2), some (.int v3), some (.ref (gshc v1)), some (.long q10), none, none, none, none, none]) (fun Q => g_lstore d_T_likely_57 (Nat.le_of_ble_eq_true rfl) rfl) ?_
          refine S.of1 (pc2 := 60) (fun Q => g_lconst (v := (0 : Int64)) d_T_likely_59 (by decide)) ?_
          refine S.of1 (pc2 := 62) (L2 := [some (.ref 0), some (.int v1), some (.int v2), some (.int v3), some (.ref (gshc v1)), some (.long q10), none, some (.long (0 : Int64)), none, none, none]) (fun Q => g_lstore d_T_likely_60 (Nat.le_of_ble_eq_true rfl) rfl) ?_
          refine S.of1 (pc2 := 63) (fun Q => g_iconst (v := (0 : Int32)) d_T_likely_62 (by decide)) ?_
          refine S.of1 (pc2 := 65) (L2 := [some (.ref 0), some (.int v1), some (.int v2), some (.int v3), some (.ref (gshc v1)), some (.long q10), none, some (.long (0 : Int64)), none, some (.int (0 : Int32)), none]) (fun Q => g_istore d_T_likely_63 (Nat.le_of_ble_eq_true rfl) rfl) ?_
          exact S.wk (L2 := [some (.ref 0), none, none, some (.int v3), some (.ref (gshc v1)), some (.long q10), none, some (.long (0 : Int64)), none, some (.int (0 : Int32)), none]) (And.intro rfl (And.intro rfl (And.intro rfl (And.intro rfl (And.intro rfl (And.intro rfl trivial)))))) (s_T_likely_L65 d hd σ gfu v3 (gshc v1) (gsh_cls h7) q10 (0 : Int64) (0 : Int32))
def f_T_sayingOtherwise_j42 (r1 : Nat) (σ : gS) (k5 : Int32 → Int32 → Int32 → Option Int32) (v2 : Int32) (v4 : Int32) (s0 : Int32) (s1 : Int32) : Option Int32 :=
  k5 v2 (s1 + s0) (v4 + (1 : Int32))
theorem s_T_sayingOtherwise_j42 (d : Nat) (hd : 4 ≤ d) (r1 : Nat) (hr1 : gcls r1 = some 8) (σ : gS) (k5 : Int32 → Int32 → Int32 → Option Int32) (hk5 : ∀ (v2 : Int32) (v3 : Int32) (v4 : Int32), S (rI σ) m_T_sayingOtherwise d 5 [some (.ref 0), some (.ref r1), some (.int v2), some (.int v3), some (.int v4)] [] σ (k5 v2 v3 v4)) (v2 : Int32) (v4 : Int32) (s0 : Int32) (s1 : Int32) : S (rI σ) m_T_sayingOtherwise d 42 [some (.ref 0), some (.ref r1), some (.int v2), none, some (.int v4)] [.int s0, .int s1] σ (f_T_sayingOtherwise_j42 r1 σ k5 v2 v4 s0 s1) := by
  unfold f_T_sayingOtherwise_j42
  refine S.of1 (pc2 := 43) (fun Q => g_iadd d_T_sayingOtherwise_42) ?_
  refine S.of1 (pc2 := 44) (L2 := [some (.ref 0), some (.ref r1), some (.int v2), some (.int (s1 + s0)), some (.int v4)]) (fun Q => g_istore_n d_T_sayingOtherwise_43 (Nat.le_of_ble_eq_true rfl) rfl) ?_
  refine S.of1 (pc2 := 47) (L2 := [some (.ref 0), some (.ref r1), some (.int v2), some (.int (s1 + s0)), some (.int (v4 + (1 : Int32)))]) (fun Q => g_iinc d_T_sayingOtherwise_44 rfl (congrArg (fun z => v4 + z) (by decide)) (Nat.le_of_ble_eq_true rfl) rfl) ?_
  refine S.of1 (pc2 := 5) (fun Q => g_goto d_T_sayingOtherwise_47 rfl) ?_
  exact S.wk (L2 := [some (.ref 0), some (.ref r1), some (.int v2), some (.int (s1 + s0)), some (.int (v4 + (1 : Int32)))]) (And.intro rfl (And.intro rfl (And.intro rfl (And.intro rfl (And.intro rfl trivial))))) (hk5 v2 (s1 + s0) (v4 + (1 : Int32)))
def f_T_sayingOtherwise_L5 (r1 : Nat) (σ : gS) : Nat → Int32 → Int32 → Int32 → Option Int32
  | 0, _, _, _ => none
  | n + 1, v2, v3, v4 =>
  if (8 : Int32) ≤ v4 then some v3 else (f_T_isTwo r1 v4 σ).bind fun q2 => if q2 = 0 then some v3 else (f_Sh_small r1 (((2 : Int32) * v4) + (1 : Int32)) σ).bind fun q4 => if q4 = v2 then f_T_sayingOtherwise_j42 r1 σ (fun v2 v3 v4 => f_T_sayingOtherwise_L5 r1 σ n v2 v3 v4) v2 v4 (0 : Int32) v3 else f_T_sayingOtherwise_j42 r1 σ (fun v2 v3 v4 => f_T_sayingOtherwise_L5 r1 σ n v2 v3 v4) v2 v4 (1 : Int32) v3
theorem s_T_sayingOtherwise_L5 (d : Nat) (hd : 4 ≤ d) (r1 : Nat) (hr1 : gcls r1 = some 8) (σ : gS) : ∀ (n : Nat) (v2 : Int32) (v3 : Int32) (v4 : Int32), S (rI σ) m_T_sayingOtherwise d 5 [some (.ref 0), some (.ref r1), some (.int v2), some (.int v3), some (.int v4)] [] σ (f_T_sayingOtherwise_L5 r1 σ n v2 v3 v4) := by
  intro n
  induction n with
  | zero =>
    intros
    unfold f_T_sayingOtherwise_L5
    exact S.no
  | succ n ih =>
    intro v2 v3 v4
    unfold f_T_sayingOtherwise_L5
    refine S.of1 (pc2 := 7) (fun Q => g_iload d_T_sayingOtherwise_5 rfl) ?_
    refine S.of1 (pc2 := 9) (fun Q => g_bipush (v := (8 : Int32)) d_T_sayingOtherwise_7 (by decide)) ?_
    refine S.br (c := (8 : Int32) ≤ v4) (t := 50) (e := 12) (fun Q kt kf => g_icmp_ge d_T_sayingOtherwise_9 rfl kt kf) (fun h1 => ?_) (fun h1 => ?_)
    · refine S.of1 (pc2 := 51) (fun Q => g_iload_n d_T_sayingOtherwise_50 rfl) ?_
      exact S.ret (fun Q hq => g_iret rfl d_T_sayingOtherwise_51 hq)
    · refine S.of1 (pc2 := 13) (fun Q => g_aload_n d_T_sayingOtherwise_12 rfl) ?_
      refine S.of1 (pc2 := 14) (fun Q => g_aload_n d_T_sayingOtherwise_13 rfl) ?_
      refine S.of1 (pc2 := 16) (fun Q => g_iload d_T_sayingOtherwise_14 rfl) ?_
      refine S.call_rI (pc3 := 19) rfl (c_T_isTwo (d - 1) (by omega) r1 hr1 v4 σ) (fun Q => g_callV (M2 := m_T_isTwo) (vs := [.ref r1, .int v4]) (st := []) lv_RX10_359 gk_0 rfl rfl (Nat.le_of_ble_eq_true rfl) (by omega) (Nat.le_of_ble_eq_true rfl) rfl d_T_sayingOtherwise_16) (fun q2 => ?_)
      refine S.br (c := q2 = 0) (t := 50) (e := 22) (fun Q kt kf => g_if_eq d_T_sayingOtherwise_19 rfl kt kf) (fun h3 => ?_) (fun h3 => ?_)
      · refine S.of1 (pc2 := 51) (fun Q => g_iload_n d_T_sayingOtherwise_50 rfl) ?_
        exact S.ret (fun Q hq => g_iret rfl d_T_sayingOtherwise_51 hq)
      · refine S.of1 (pc2 := 23) (fun Q => g_iload_n d_T_sayingOtherwise_22 rfl) ?_
        refine S.of1 (pc2 := 24) (fun Q => g_aload_n d_T_sayingOtherwise_23 rfl) ?_
        refine S.of1 (pc2 := 25) (fun Q => g_iconst (v := (2 : Int32)) d_T_sayingOtherwise_24 (by decide)) ?_
        refine S.of1 (pc2 := 27) (fun Q => g_iload d_T_sayingOtherwise_25 rfl) ?_
        refine S.of1 (pc2 := 28) (fun Q => g_imul d_T_sayingOtherwise_27) ?_
        refine S.of1 (pc2 := 29) (fun Q => g_iconst (v := (1 : Int32)) d_T_sayingOtherwise_28 (by decide)) ?_
        refine S.of1 (pc2 := 30) (fun Q => g_iadd d_T_sayingOtherwise_29) ?_
        refine S.call_rI (pc3 := 33) rfl (c_Sh_small (d - 1) (by omega) r1 hr1 (((2 : Int32) * v4) + (1 : Int32)) σ) (fun Q => g_callV (M2 := m_Sh_small) (vs := [.int (((2 : Int32) * v4) + (1 : Int32))]) (st := [.int v3]) lv_RX10_149 hr1 rfl rfl (Nat.le_of_ble_eq_true rfl) (by omega) (Nat.le_of_ble_eq_true rfl) rfl d_T_sayingOtherwise_30) (fun q4 => ?_)
        refine S.of1 (pc2 := 34) (fun Q => g_iload_n d_T_sayingOtherwise_33 rfl) ?_
        refine S.br (c := q4 = v2) (t := 41) (e := 37) (fun Q kt kf => g_icmp_eq d_T_sayingOtherwise_34 rfl kt kf) (fun h5 => ?_) (fun h5 => ?_)
        · refine S.of1 (pc2 := 42) (fun Q => g_iconst (v := (0 : Int32)) d_T_sayingOtherwise_41 (by decide)) ?_
          exact S.wk (L2 := [some (.ref 0), some (.ref r1), some (.int v2), none, some (.int v4)]) (And.intro rfl (And.intro rfl (And.intro rfl (And.intro rfl trivial)))) (s_T_sayingOtherwise_j42 d hd r1 hr1 σ (fun v2 v3 v4 => f_T_sayingOtherwise_L5 r1 σ n v2 v3 v4) (fun v2 v3 v4 => ih v2 v3 v4) v2 v4 (0 : Int32) v3)
        · refine S.of1 (pc2 := 38) (fun Q => g_iconst (v := (1 : Int32)) d_T_sayingOtherwise_37 (by decide)) ?_
          refine S.of1 (pc2 := 42) (fun Q => g_goto d_T_sayingOtherwise_38 rfl) ?_
          exact S.wk (L2 := [some (.ref 0), some (.ref r1), some (.int v2), none, some (.int v4)]) (And.intro rfl (And.intro rfl (And.intro rfl (And.intro rfl trivial)))) (s_T_sayingOtherwise_j42 d hd r1 hr1 σ (fun v2 v3 v4 => f_T_sayingOtherwise_L5 r1 σ n v2 v3 v4) (fun v2 v3 v4 => ih v2 v3 v4) v2 v4 (1 : Int32) v3)
def f_T_sayingOtherwise (r1 : Nat) (v2 : Int32) (σ : gS) : Option Int32 :=
  f_T_sayingOtherwise_L5 r1 σ gfu v2 (0 : Int32) (0 : Int32)
theorem c_T_sayingOtherwise (d : Nat) (hd : 4 ≤ d) (r1 : Nat) (hr1 : gcls r1 = some 8) (v2 : Int32) (σ : gS) : C (rI σ) d m_T_sayingOtherwise [.ref 0, .ref r1, .int v2] σ (f_T_sayingOtherwise r1 v2 σ) := by
  unfold f_T_sayingOtherwise
  refine C.of (by decide +kernel) (Nat.le_of_ble_eq_true rfl) (L := [some (.ref 0), some (.ref r1), some (.int v2), none, none]) rfl ?_
  refine S.of1 (pc2 := 1) (fun Q => g_iconst (v := (0 : Int32)) d_T_sayingOtherwise_0 (by decide)) ?_
  refine S.of1 (pc2 := 2) (L2 := [some (.ref 0), some (.ref r1), some (.int v2), some (.int (0 : Int32)), none]) (fun Q => g_istore_n d_T_sayingOtherwise_1 (Nat.le_of_ble_eq_true rfl) rfl) ?_
  refine S.of1 (pc2 := 3) (fun Q => g_iconst (v := (0 : Int32)) d_T_sayingOtherwise_2 (by decide)) ?_
  refine S.of1 (pc2 := 5) (L2 := [some (.ref 0), some (.ref r1), some (.int v2), some (.int (0 : Int32)), some (.int (0 : Int32))]) (fun Q => g_istore d_T_sayingOtherwise_3 (Nat.le_of_ble_eq_true rfl) rfl) ?_
  exact S.wk (L2 := [some (.ref 0), some (.ref r1), some (.int v2), some (.int (0 : Int32)), some (.int (0 : Int32))]) (And.intro rfl (And.intro rfl (And.intro rfl (And.intro rfl (And.intro rfl trivial))))) (s_T_sayingOtherwise_L5 d hd r1 hr1 σ gfu v2 (0 : Int32) (0 : Int32))
def f_T_liars_L48 (σ : gS) : Nat → Int32 → Nat → Int32 → Int32 → Int32 → Option Int32
  | 0, _, _, _, _, _ => none
  | n + 1, v2, q3, v4, v5, v6 =>
  if (6 : Int32) ≤ v6 then if v2 = 0 then some v4 else some v5 else (f_T_sayingOtherwise q3 v6 σ).bind fun q11 => if v4 ≤ q11 then (fun v2 q3 v4 v5 v6 => f_T_liars_L48 σ n v2 q3 v4 v5 v6) v2 q3 v4 v5 (v6 + (1 : Int32)) else (fun v2 q3 v4 v5 v6 => f_T_liars_L48 σ n v2 q3 v4 v5 v6) v2 q3 q11 v6 (v6 + (1 : Int32))
theorem s_T_liars_L48 (d : Nat) (hd : 5 ≤ d) (σ : gS) : ∀ (n : Nat) (v2 : Int32) (q3 : Nat) (hq3 : gcls q3 = some 8) (v4 : Int32) (v5 : Int32) (v6 : Int32), S (rI σ) m_T_liars d 48 [some (.ref 0), none, some (.int v2), some (.ref q3), some (.int v4), some (.int v5), some (.int v6), none] [] σ (f_T_liars_L48 σ n v2 q3 v4 v5 v6) := by
  intro n
  induction n with
  | zero =>
    intros
    unfold f_T_liars_L48
    exact S.no
  | succ n ih =>
    intro v2 q3 hq3 v4 v5 v6
    unfold f_T_liars_L48
    refine S.of1 (pc2 := 50) (fun Q => g_iload d_T_liars_48 rfl) ?_
    refine S.of1 (pc2 := 52) (fun Q => g_bipush (v := (6 : Int32)) d_T_liars_50 (by decide)) ?_
    refine S.br (c := (6 : Int32) ≤ v6) (t := 85) (e := 55) (fun Q kt kf => g_icmp_ge d_T_liars_52 rfl kt kf) (fun h9 => ?_) (fun h9 => ?_)
    · refine S.of1 (pc2 := 86) (fun Q => g_iload_n d_T_liars_85 rfl) ?_
      refine S.br (c := v2 = 0) (t := 89) (e := 94) (fun Q kt kf => g_if_ne d_T_liars_86 rfl kf kt) (fun h10 => ?_) (fun h10 => ?_)
      · refine S.of1 (pc2 := 91) (fun Q => g_iload d_T_liars_89 rfl) ?_
        refine S.of1 (pc2 := 96) (fun Q => g_goto d_T_liars_91 rfl) ?_
        exact S.ret (fun Q hq => g_iret rfl d_T_liars_96 hq)
      · refine S.of1 (pc2 := 96) (fun Q => g_iload d_T_liars_94 rfl) ?_
        exact S.ret (fun Q hq => g_iret rfl d_T_liars_96 hq)
    · refine S.of1 (pc2 := 56) (fun Q => g_aload_n d_T_liars_55 rfl) ?_
      refine S.of1 (pc2 := 57) (fun Q => g_aload_n d_T_liars_56 rfl) ?_
      refine S.of1 (pc2 := 59) (fun Q => g_iload d_T_liars_57 rfl) ?_
      refine S.call_rI (pc3 := 62) rfl (c_T_sayingOtherwise (d - 1) (by omega) q3 hq3 v6 σ) (fun Q => g_callV (M2 := m_T_sayingOtherwise) (vs := [.ref q3, .int v6]) (st := []) lv_RX10_210 gk_0 rfl rfl (Nat.le_of_ble_eq_true rfl) (by omega) (Nat.le_of_ble_eq_true rfl) rfl d_T_liars_59) (fun q11 => ?_)
      refine S.of1 (pc2 := 64) (L2 := [some (.ref 0), none, some (.int v2), some (.ref q3), some (.int v4), some (.int v5), some (.int v6), some (.int q11)]) (fun Q => g_istore d_T_liars_62 (Nat.le_of_ble_eq_true rfl) rfl) ?_
      refine S.of1 (pc2 := 66) (fun Q => g_iload d_T_liars_64 rfl) ?_
      refine S.of1 (pc2 := 68) (fun Q => g_iload d_T_liars_66 rfl) ?_
      refine S.br (c := v4 ≤ q11) (t := 79) (e := 71) (fun Q kt kf => g_icmp_ge d_T_liars_68 rfl kt kf) (fun h12 => ?_) (fun h12 => ?_)
      · refine S.of1 (pc2 := 82) (L2 := [some (.ref 0), none, some (.int v2), some (.ref q3), some (.int v4), some (.int v5), some (.int (v6 + (1 : Int32))), some (.int q11)]) (fun Q => g_iinc d_T_liars_79 rfl (congrArg (fun z => v6 + z) (by decide)) (Nat.le_of_ble_eq_true rfl) rfl) ?_
        refine S.of1 (pc2 := 48) (fun Q => g_goto d_T_liars_82 rfl) ?_
        exact S.wk (L2 := [some (.ref 0), none, some (.int v2), some (.ref q3), some (.int v4), some (.int v5), some (.int (v6 + (1 : Int32))), none]) (And.intro rfl (And.intro rfl (And.intro rfl (And.intro rfl (And.intro rfl (And.intro rfl trivial)))))) (ih v2 q3 hq3 v4 v5 (v6 + (1 : Int32)))
      · refine S.of1 (pc2 := 73) (fun Q => g_iload d_T_liars_71 rfl) ?_
        refine S.of1 (pc2 := 75) (L2 := [some (.ref 0), none, some (.int v2), some (.ref q3), some (.int q11), some (.int v5), some (.int v6), some (.int q11)]) (fun Q => g_istore d_T_liars_73 (Nat.le_of_ble_eq_true rfl) rfl) ?_
        refine S.of1 (pc2 := 77) (fun Q => g_iload d_T_liars_75 rfl) ?_
        refine S.of1 (pc2 := 79) (L2 := [some (.ref 0), none, some (.int v2), some (.ref q3), some (.int q11), some (.int v6), some (.int v6), some (.int q11)]) (fun Q => g_istore d_T_liars_77 (Nat.le_of_ble_eq_true rfl) rfl) ?_
        refine S.of1 (pc2 := 82) (L2 := [some (.ref 0), none, some (.int v2), some (.ref q3), some (.int q11), some (.int v6), some (.int (v6 + (1 : Int32))), some (.int q11)]) (fun Q => g_iinc d_T_liars_79 rfl (congrArg (fun z => v6 + z) (by decide)) (Nat.le_of_ble_eq_true rfl) rfl) ?_
        refine S.of1 (pc2 := 48) (fun Q => g_goto d_T_liars_82 rfl) ?_
        exact S.wk (L2 := [some (.ref 0), none, some (.int v2), some (.ref q3), some (.int q11), some (.int v6), some (.int (v6 + (1 : Int32))), none]) (And.intro rfl (And.intro rfl (And.intro rfl (And.intro rfl (And.intro rfl (And.intro rfl trivial)))))) (ih v2 q3 hq3 q11 v6 (v6 + (1 : Int32)))
def f_T_liars (v1 : Int32) (v2 : Int32) (σ : gS) : Option Int32 :=
  (f_T_within v1 (6 : Int32)).bind fun q1 => if q1 = 0 then some (-1 : Int32) else (f_T_within v2 (2 : Int32)).bind fun q3 => if q3 = 0 then some (-1 : Int32) else if gix v1 6 then (f_Sh_isOfBytes (gshc v1) σ).bind fun q6 => if q6 = 0 then (f_Sh_refusal (gshc v1) σ).bind fun q8 => some q8 else f_T_liars_L48 σ gfu v2 (gshc v1) (9 : Int32) (0 : Int32) (0 : Int32) else none
theorem c_T_liars (d : Nat) (hd : 5 ≤ d) (v1 : Int32) (v2 : Int32) (σ : gS) : C (rI σ) d m_T_liars [.ref 0, .int v1, .int v2] σ (f_T_liars v1 v2 σ) := by
  unfold f_T_liars
  refine C.of (by decide +kernel) (Nat.le_of_ble_eq_true rfl) (L := [some (.ref 0), some (.int v1), some (.int v2), none, none, none, none, none]) rfl ?_
  refine S.of1 (pc2 := 1) (fun Q => g_iload_n d_T_liars_0 rfl) ?_
  refine S.of1 (pc2 := 3) (fun Q => g_bipush (v := (6 : Int32)) d_T_liars_1 (by decide)) ?_
  refine S.call_rI (pc3 := 6) rfl (c_T_within (d - 1) (by omega) v1 (6 : Int32) σ) (fun Q => g_callS (M2 := m_T_within) (vs := [.int v1, .int (6 : Int32)]) (st := []) ls_RX10_72 rfl (Nat.le_of_ble_eq_true rfl) (by omega) (Nat.le_of_ble_eq_true rfl) rfl d_T_liars_3) (fun q1 => ?_)
  refine S.br (c := q1 = 0) (t := 17) (e := 9) (fun Q kt kf => g_if_eq d_T_liars_6 rfl kt kf) (fun h2 => ?_) (fun h2 => ?_)
  · refine S.of1 (pc2 := 18) (fun Q => g_iconst (v := (-1 : Int32)) d_T_liars_17 (by decide)) ?_
    exact S.ret (fun Q hq => g_iret rfl d_T_liars_18 hq)
  · refine S.of1 (pc2 := 10) (fun Q => g_iload_n d_T_liars_9 rfl) ?_
    refine S.of1 (pc2 := 11) (fun Q => g_iconst (v := (2 : Int32)) d_T_liars_10 (by decide)) ?_
    refine S.call_rI (pc3 := 14) rfl (c_T_within (d - 1) (by omega) v2 (2 : Int32) σ) (fun Q => g_callS (M2 := m_T_within) (vs := [.int v2, .int (2 : Int32)]) (st := []) ls_RX10_72 rfl (Nat.le_of_ble_eq_true rfl) (by omega) (Nat.le_of_ble_eq_true rfl) rfl d_T_liars_11) (fun q3 => ?_)
    refine S.br (c := q3 = 0) (t := 17) (e := 19) (fun Q kt kf => g_if_ne d_T_liars_14 rfl kf kt) (fun h4 => ?_) (fun h4 => ?_)
    · refine S.of1 (pc2 := 18) (fun Q => g_iconst (v := (-1 : Int32)) d_T_liars_17 (by decide)) ?_
      exact S.ret (fun Q hq => g_iret rfl d_T_liars_18 hq)
    · refine S.of1 (pc2 := 20) (fun Q => g_aload_n d_T_liars_19 rfl) ?_
      refine S.of1 (pc2 := 23) (fun Q => g_getr fl_RX10_67 gc_0_8 d_T_liars_20) ?_
      refine S.of1 (pc2 := 24) (fun Q => g_iload_n d_T_liars_23 rfl) ?_
      refine S.chk (fun h5 => ?_)
      refine S.of1 (pc2 := 25) (fun Q => g_aald gra_46 (gix_in h5) (gsh_get h5) d_T_liars_24) ?_
      refine S.of1 (pc2 := 26) (L2 := [some (.ref 0), some (.int v1), some (.int v2), some (.ref (gshc v1)), none, none, none, none]) (fun Q => g_astore_n d_T_liars_25 (Nat.le_of_ble_eq_true rfl) rfl) ?_
      refine S.of1 (pc2 := 27) (fun Q => g_aload_n d_T_liars_26 rfl) ?_
      refine S.call_rI (pc3 := 30) rfl (c_Sh_isOfBytes (d - 1) (by omega) (gshc v1) (gsh_cls h5) σ) (fun Q => g_callV (M2 := m_Sh_isOfBytes) (vs := []) (st := []) lv_RX10_84 (gsh_cls h5) rfl rfl (Nat.le_of_ble_eq_true rfl) (by omega) (Nat.le_of_ble_eq_true rfl) rfl d_T_liars_27) (fun q6 => ?_)
      refine S.br (c := q6 = 0) (t := 33) (e := 38) (fun Q kt kf => g_if_ne d_T_liars_30 rfl kf kt) (fun h7 => ?_) (fun h7 => ?_)
      · refine S.of1 (pc2 := 34) (fun Q => g_aload_n d_T_liars_33 rfl) ?_
        refine S.call_rI (pc3 := 37) rfl (c_Sh_refusal (d - 1) (by omega) (gshc v1) (gsh_cls h5) σ) (fun Q => g_callV (M2 := m_Sh_refusal) (vs := []) (st := []) lv_RX10_146 (gsh_cls h5) rfl rfl (Nat.le_of_ble_eq_true rfl) (by omega) (Nat.le_of_ble_eq_true rfl) rfl d_T_liars_34) (fun q8 => ?_)
        exact S.ret (fun Q hq => g_iret rfl d_T_liars_37 hq)
      · refine S.of1 (pc2 := 40) (fun Q => g_bipush (v := (9 : Int32)) d_T_liars_38 (by decide)) ?_
        refine S.of1 (pc2 := 42) (L2 := [some (.ref 0), some (.int v1), some (.int v2), some (.ref (gshc v1)), some (.int (9 : Int32)), none, none, none]) (fun Q => g_istore d_T_liars_40 (Nat.le_of_ble_eq_true rfl) rfl) ?_
        refine S.of1 (pc2 := 43) (fun Q => g_iconst (v := (0 : Int32)) d_T_liars_42 (by decide)) ?_
        refine S.of1 (pc2 := 45) (L2 := [some (.ref 0), some (.int v1), some (.int v2), some (.ref (gshc v1)), some (.int (9 : Int32)), some (.int (0 : Int32)), none, none]) (fun Q => g_istore d_T_liars_43 (Nat.le_of_ble_eq_true rfl) rfl) ?_
        refine S.of1 (pc2 := 46) (fun Q => g_iconst (v := (0 : Int32)) d_T_liars_45 (by decide)) ?_
        refine S.of1 (pc2 := 48) (L2 := [some (.ref 0), some (.int v1), some (.int v2), some (.ref (gshc v1)), some (.int (9 : Int32)), some (.int (0 : Int32)), some (.int (0 : Int32)), none]) (fun Q => g_istore d_T_liars_46 (Nat.le_of_ble_eq_true rfl) rfl) ?_
        exact S.wk (L2 := [some (.ref 0), none, some (.int v2), some (.ref (gshc v1)), some (.int (9 : Int32)), some (.int (0 : Int32)), some (.int (0 : Int32)), none]) (And.intro rfl (And.intro rfl (And.intro rfl (And.intro rfl (And.intro rfl (And.intro rfl trivial)))))) (s_T_liars_L48 d hd σ gfu v2 (gshc v1) (gsh_cls h5) (9 : Int32) (0 : Int32) (0 : Int32))
def f_T_dayBehind (v1 : Int32) (σ : gS) : Option Int32 :=
  some (gmin (99 : Int32) ((σ.1 1 9) + v1))
theorem c_T_dayBehind (d : Nat) (hd : 2 ≤ d) (v1 : Int32) (σ : gS) : C (rI σ) d m_T_dayBehind [.ref 0, .int v1] σ (f_T_dayBehind v1 σ) := by
  unfold f_T_dayBehind
  refine C.of (by decide +kernel) (Nat.le_of_ble_eq_true rfl) (L := [some (.ref 0), some (.int v1)]) rfl ?_
  refine S.of1 (pc2 := 2) (fun Q => g_bipush (v := (99 : Int32)) d_T_dayBehind_0 (by decide)) ?_
  refine S.of1 (pc2 := 3) (fun Q => g_aload_n d_T_dayBehind_2 rfl) ?_
  refine S.of1 (pc2 := 6) (fun Q => g_getr fl_RX10_10 gc_0_0 d_T_dayBehind_3) ?_
  refine S.of1 (pc2 := 9) (fun Q => g_geti fl_RX10_262 gc_1_9 d_T_dayBehind_6) ?_
  refine S.of1 (pc2 := 10) (fun Q => g_iload_n d_T_dayBehind_9 rfl) ?_
  refine S.of1 (pc2 := 11) (fun Q => g_iadd d_T_dayBehind_10) ?_
  refine S.of1 (pc2 := 14) (fun Q => g_mmin w_901 w_600 w_91 wc_min (by omega) (Nat.le_of_ble_eq_true rfl) d_T_dayBehind_11) ?_
  exact S.ret (fun Q hq => g_iret rfl d_T_dayBehind_14 hq)
def f_T_daysOn_L2 (r0 : Nat) (σ : gS) : Nat → Int32 → Option Int32
  | 0, _ => none
  | n + 1, v1 =>
  if (40 : Int32) ≤ v1 then some v1 else (f_Sh_small r0 v1 σ).bind fun q2 => (f_T_within q2 (6 : Int32)).bind fun q3 => if q3 = 0 then some v1 else (fun v1 => f_T_daysOn_L2 r0 σ n v1) (v1 + (1 : Int32))
theorem s_T_daysOn_L2 (d : Nat) (hd : 3 ≤ d) (r0 : Nat) (hr0 : gcls r0 = some 8) (σ : gS) : ∀ (n : Nat) (v1 : Int32), S (rI σ) m_T_daysOn d 2 [some (.ref r0), some (.int v1)] [] σ (f_T_daysOn_L2 r0 σ n v1) := by
  intro n
  induction n with
  | zero =>
    intros
    unfold f_T_daysOn_L2
    exact S.no
  | succ n ih =>
    intro v1
    unfold f_T_daysOn_L2
    refine S.of1 (pc2 := 3) (fun Q => g_iload_n d_T_daysOn_2 rfl) ?_
    refine S.of1 (pc2 := 5) (fun Q => g_bipush (v := (40 : Int32)) d_T_daysOn_3 (by decide)) ?_
    refine S.br (c := (40 : Int32) ≤ v1) (t := 27) (e := 8) (fun Q kt kf => g_icmp_ge d_T_daysOn_5 rfl kt kf) (fun h1 => ?_) (fun h1 => ?_)
    · refine S.of1 (pc2 := 28) (fun Q => g_iload_n d_T_daysOn_27 rfl) ?_
      exact S.ret (fun Q hq => g_iret rfl d_T_daysOn_28 hq)
    · refine S.of1 (pc2 := 9) (fun Q => g_aload_n d_T_daysOn_8 rfl) ?_
      refine S.of1 (pc2 := 10) (fun Q => g_iload_n d_T_daysOn_9 rfl) ?_
      refine S.call_rI (pc3 := 13) rfl (c_Sh_small (d - 1) (by omega) r0 hr0 v1 σ) (fun Q => g_callV (M2 := m_Sh_small) (vs := [.int v1]) (st := []) lv_RX10_149 hr0 rfl rfl (Nat.le_of_ble_eq_true rfl) (by omega) (Nat.le_of_ble_eq_true rfl) rfl d_T_daysOn_10) (fun q2 => ?_)
      refine S.of1 (pc2 := 15) (fun Q => g_bipush (v := (6 : Int32)) d_T_daysOn_13 (by decide)) ?_
      refine S.call_rI (pc3 := 18) rfl (c_T_within (d - 1) (by omega) q2 (6 : Int32) σ) (fun Q => g_callS (M2 := m_T_within) (vs := [.int q2, .int (6 : Int32)]) (st := []) ls_RX10_72 rfl (Nat.le_of_ble_eq_true rfl) (by omega) (Nat.le_of_ble_eq_true rfl) rfl d_T_daysOn_15) (fun q3 => ?_)
      refine S.br (c := q3 = 0) (t := 27) (e := 21) (fun Q kt kf => g_if_eq d_T_daysOn_18 rfl kt kf) (fun h4 => ?_) (fun h4 => ?_)
      · refine S.of1 (pc2 := 28) (fun Q => g_iload_n d_T_daysOn_27 rfl) ?_
        exact S.ret (fun Q hq => g_iret rfl d_T_daysOn_28 hq)
      · refine S.of1 (pc2 := 24) (L2 := [some (.ref r0), some (.int (v1 + (1 : Int32)))]) (fun Q => g_iinc d_T_daysOn_21 rfl (congrArg (fun z => v1 + z) (by decide)) (Nat.le_of_ble_eq_true rfl) rfl) ?_
        refine S.of1 (pc2 := 2) (fun Q => g_goto d_T_daysOn_24 rfl) ?_
        exact S.wk (L2 := [some (.ref r0), some (.int (v1 + (1 : Int32)))]) (And.intro rfl (And.intro rfl trivial)) (ih (v1 + (1 : Int32)))
def f_T_daysOn (r0 : Nat) (σ : gS) : Option Int32 :=
  f_T_daysOn_L2 r0 σ gfu (0 : Int32)
theorem c_T_daysOn (d : Nat) (hd : 3 ≤ d) (r0 : Nat) (hr0 : gcls r0 = some 8) (σ : gS) : C (rI σ) d m_T_daysOn [.ref r0] σ (f_T_daysOn r0 σ) := by
  unfold f_T_daysOn
  refine C.of (by decide +kernel) (Nat.le_of_ble_eq_true rfl) (L := [some (.ref r0), none]) rfl ?_
  refine S.of1 (pc2 := 1) (fun Q => g_iconst (v := (0 : Int32)) d_T_daysOn_0 (by decide)) ?_
  refine S.of1 (pc2 := 2) (L2 := [some (.ref r0), some (.int (0 : Int32))]) (fun Q => g_istore_n d_T_daysOn_1 (Nat.le_of_ble_eq_true rfl) rfl) ?_
  exact S.wk (L2 := [some (.ref r0), some (.int (0 : Int32))]) (And.intro rfl (And.intro rfl trivial)) (s_T_daysOn_L2 d hd r0 hr0 σ gfu (0 : Int32))
def f_T_days_j151 (k59 : Int32 → Nat → Int32 → Int32 → Int32 → Int32 → Int32 → Int32 → gS → Option (Int32 × gS)) (v2 : Int32) (q3 : Nat) (v4 : Int32) (v5 : Int32) (v7 : Int32) (v8 : Int32) (v9 : Int32) (s0 : Int32) (σ : gS) : Option (Int32 × gS) :=
  k59 v2 q3 v4 v5 s0 (gmax v7 s0) v8 (v9 + (1 : Int32)) σ
theorem s_T_days_j151 (d : Nat) (hd : 5 ≤ d) (k59 : Int32 → Nat → Int32 → Int32 → Int32 → Int32 → Int32 → Int32 → gS → Option (Int32 × gS)) (hk59 : ∀ (v2 : Int32) (q3 : Nat) (hq3 : gcls q3 = some 8) (v4 : Int32) (v5 : Int32) (v6 : Int32) (v7 : Int32) (v8 : Int32) (v9 : Int32) (τ : gS), S wI m_T_days d 59 [some (.ref 0), none, some (.int v2), some (.ref q3), some (.int v4), some (.int v5), some (.int v6), some (.int v7), some (.int v8), some (.int v9), none] [] τ (k59 v2 q3 v4 v5 v6 v7 v8 v9 τ)) (v2 : Int32) (q3 : Nat) (hq3 : gcls q3 = some 8) (v4 : Int32) (v5 : Int32) (v7 : Int32) (v8 : Int32) (v9 : Int32) (s0 : Int32) (σ : gS) : S wI m_T_days d 151 [some (.ref 0), none, some (.int v2), some (.ref q3), some (.int v4), some (.int v5), none, some (.int v7), some (.int v8), some (.int v9), none] [.int s0] σ (f_T_days_j151 k59 v2 q3 v4 v5 v7 v8 v9 s0 σ) := by
  unfold f_T_days_j151
  refine S.of1 (pc2 := 153) (L2 := [some (.ref 0), none, some (.int v2), some (.ref q3), some (.int v4), some (.int v5), some (.int s0), some (.int v7), some (.int v8), some (.int v9), none]) (fun Q => g_istore d_T_days_151 (Nat.le_of_ble_eq_true rfl) rfl) ?_
  refine S.of1 (pc2 := 155) (fun Q => g_iload d_T_days_153 rfl) ?_
  refine S.of1 (pc2 := 157) (fun Q => g_iload d_T_days_155 rfl) ?_
  refine S.of1 (pc2 := 160) (fun Q => g_mmax w_903 w_597 w_91 wc_max (by omega) (Nat.le_of_ble_eq_true rfl) d_T_days_157) ?_
  refine S.of1 (pc2 := 162) (L2 := [some (.ref 0), none, some (.int v2), some (.ref q3), some (.int v4), some (.int v5), some (.int s0), some (.int (gmax v7 s0)), some (.int v8), some (.int v9), none]) (fun Q => g_istore d_T_days_160 (Nat.le_of_ble_eq_true rfl) rfl) ?_
  refine S.of1 (pc2 := 165) (L2 := [some (.ref 0), none, some (.int v2), some (.ref q3), some (.int v4), some (.int v5), some (.int s0), some (.int (gmax v7 s0)), some (.int v8), some (.int (v9 + (1 : Int32))), none]) (fun Q => g_iinc d_T_days_162 rfl (congrArg (fun z => v9 + z) (by decide)) (Nat.le_of_ble_eq_true rfl) rfl) ?_
  refine S.of1 (pc2 := 59) (fun Q => g_goto d_T_days_165 rfl) ?_
  exact S.wk (L2 := [some (.ref 0), none, some (.int v2), some (.ref q3), some (.int v4), some (.int v5), some (.int s0), some (.int (gmax v7 s0)), some (.int v8), some (.int (v9 + (1 : Int32))), none]) (And.intro rfl (And.intro rfl (And.intro rfl (And.intro rfl (And.intro rfl (And.intro rfl (And.intro rfl (And.intro rfl (And.intro rfl trivial))))))))) (hk59 v2 q3 hq3 v4 v5 s0 (gmax v7 s0) v8 (v9 + (1 : Int32)) σ)
def f_T_days_j135 (k59 : Int32 → Nat → Int32 → Int32 → Int32 → Int32 → Int32 → Int32 → gS → Option (Int32 × gS)) (v2 : Int32) (q3 : Nat) (v4 : Int32) (v6 : Int32) (v7 : Int32) (v8 : Int32) (v9 : Int32) (v10 : Int32) (s0 : Int32) (s1 : Int32) (σ : gS) : Option (Int32 × gS) :=
  if v10 = 0 then f_T_days_j151 k59 v2 q3 v4 (s1 + s0) v7 v8 v9 (v6 + (1 : Int32)) σ else f_T_days_j151 k59 v2 q3 v4 (s1 + s0) v7 v8 v9 (0 : Int32) σ
theorem s_T_days_j135 (d : Nat) (hd : 5 ≤ d) (k59 : Int32 → Nat → Int32 → Int32 → Int32 → Int32 → Int32 → Int32 → gS → Option (Int32 × gS)) (hk59 : ∀ (v2 : Int32) (q3 : Nat) (hq3 : gcls q3 = some 8) (v4 : Int32) (v5 : Int32) (v6 : Int32) (v7 : Int32) (v8 : Int32) (v9 : Int32) (τ : gS), S wI m_T_days d 59 [some (.ref 0), none, some (.int v2), some (.ref q3), some (.int v4), some (.int v5), some (.int v6), some (.int v7), some (.int v8), some (.int v9), none] [] τ (k59 v2 q3 v4 v5 v6 v7 v8 v9 τ)) (v2 : Int32) (q3 : Nat) (hq3 : gcls q3 = some 8) (v4 : Int32) (v6 : Int32) (v7 : Int32) (v8 : Int32) (v9 : Int32) (v10 : Int32) (s0 : Int32) (s1 : Int32) (σ : gS) : S wI m_T_days d 135 [some (.ref 0), none, some (.int v2), some (.ref q3), some (.int v4), none, some (.int v6), some (.int v7), some (.int v8), some (.int v9), some (.int v10)] [.int s0, .int s1] σ (f_T_days_j135 k59 v2 q3 v4 v6 v7 v8 v9 v10 s0 s1 σ) := by
  unfold f_T_days_j135
  refine S.of1 (pc2 := 136) (fun Q => g_iadd d_T_days_135) ?_
  refine S.of1 (pc2 := 138) (L2 := [some (.ref 0), none, some (.int v2), some (.ref q3), some (.int v4), some (.int (s1 + s0)), some (.int v6), some (.int v7), some (.int v8), some (.int v9), some (.int v10)]) (fun Q => g_istore d_T_days_136 (Nat.le_of_ble_eq_true rfl) rfl) ?_
  refine S.of1 (pc2 := 140) (fun Q => g_iload d_T_days_138 rfl) ?_
  refine S.br (c := v10 = 0) (t := 143) (e := 150) (fun Q kt kf => g_if_ne d_T_days_140 rfl kf kt) (fun h20 => ?_) (fun h20 => ?_)
  · refine S.of1 (pc2 := 145) (fun Q => g_iload d_T_days_143 rfl) ?_
    refine S.of1 (pc2 := 146) (fun Q => g_iconst (v := (1 : Int32)) d_T_days_145 (by decide)) ?_
    refine S.of1 (pc2 := 147) (fun Q => g_iadd d_T_days_146) ?_
    refine S.of1 (pc2 := 151) (fun Q => g_goto d_T_days_147 rfl) ?_
    exact S.wk (L2 := [some (.ref 0), none, some (.int v2), some (.ref q3), some (.int v4), some (.int (s1 + s0)), none, some (.int v7), some (.int v8), some (.int v9), none]) (And.intro rfl (And.intro rfl (And.intro rfl (And.intro rfl (And.intro rfl (And.intro rfl (And.intro rfl (And.intro rfl trivial)))))))) (s_T_days_j151 d hd k59 hk59 v2 q3 hq3 v4 (s1 + s0) v7 v8 v9 (v6 + (1 : Int32)) σ)
  · refine S.of1 (pc2 := 151) (fun Q => g_iconst (v := (0 : Int32)) d_T_days_150 (by decide)) ?_
    exact S.wk (L2 := [some (.ref 0), none, some (.int v2), some (.ref q3), some (.int v4), some (.int (s1 + s0)), none, some (.int v7), some (.int v8), some (.int v9), none]) (And.intro rfl (And.intro rfl (And.intro rfl (And.intro rfl (And.intro rfl (And.intro rfl (And.intro rfl (And.intro rfl trivial)))))))) (s_T_days_j151 d hd k59 hk59 v2 q3 hq3 v4 (s1 + s0) v7 v8 v9 (0 : Int32) σ)
def f_T_days_j112 (k59 : Int32 → Nat → Int32 → Int32 → Int32 → Int32 → Int32 → Int32 → gS → Option (Int32 × gS)) (v2 : Int32) (q3 : Nat) (v5 : Int32) (v6 : Int32) (v7 : Int32) (v8 : Int32) (v9 : Int32) (v10 : Int32) (s0 : Int32) (s1 : Int32) (σ : gS) : Option (Int32 × gS) :=
  (f_Sh_small q3 v9 σ).bind fun q18 => if v10 = ((1 : Int32) <<< (q18 &&& 31)) then f_T_days_j135 k59 v2 q3 (s1 + s0) v6 v7 v8 v9 v10 (1 : Int32) v5 σ else f_T_days_j135 k59 v2 q3 (s1 + s0) v6 v7 v8 v9 v10 (0 : Int32) v5 σ
theorem s_T_days_j112 (d : Nat) (hd : 5 ≤ d) (k59 : Int32 → Nat → Int32 → Int32 → Int32 → Int32 → Int32 → Int32 → gS → Option (Int32 × gS)) (hk59 : ∀ (v2 : Int32) (q3 : Nat) (hq3 : gcls q3 = some 8) (v4 : Int32) (v5 : Int32) (v6 : Int32) (v7 : Int32) (v8 : Int32) (v9 : Int32) (τ : gS), S wI m_T_days d 59 [some (.ref 0), none, some (.int v2), some (.ref q3), some (.int v4), some (.int v5), some (.int v6), some (.int v7), some (.int v8), some (.int v9), none] [] τ (k59 v2 q3 v4 v5 v6 v7 v8 v9 τ)) (v2 : Int32) (q3 : Nat) (hq3 : gcls q3 = some 8) (v5 : Int32) (v6 : Int32) (v7 : Int32) (v8 : Int32) (v9 : Int32) (v10 : Int32) (s0 : Int32) (s1 : Int32) (σ : gS) : S wI m_T_days d 112 [some (.ref 0), none, some (.int v2), some (.ref q3), none, some (.int v5), some (.int v6), some (.int v7), some (.int v8), some (.int v9), some (.int v10)] [.int s0, .int s1] σ (f_T_days_j112 k59 v2 q3 v5 v6 v7 v8 v9 v10 s0 s1 σ) := by
  unfold f_T_days_j112
  refine S.of1 (pc2 := 113) (fun Q => g_iadd d_T_days_112) ?_
  refine S.of1 (pc2 := 115) (L2 := [some (.ref 0), none, some (.int v2), some (.ref q3), some (.int (s1 + s0)), some (.int v5), some (.int v6), some (.int v7), some (.int v8), some (.int v9), some (.int v10)]) (fun Q => g_istore d_T_days_113 (Nat.le_of_ble_eq_true rfl) rfl) ?_
  refine S.of1 (pc2 := 117) (fun Q => g_iload d_T_days_115 rfl) ?_
  refine S.of1 (pc2 := 119) (fun Q => g_iload d_T_days_117 rfl) ?_
  refine S.of1 (pc2 := 120) (fun Q => g_iconst (v := (1 : Int32)) d_T_days_119 (by decide)) ?_
  refine S.of1 (pc2 := 121) (fun Q => g_aload_n d_T_days_120 rfl) ?_
  refine S.of1 (pc2 := 123) (fun Q => g_iload d_T_days_121 rfl) ?_
  refine S.call_rI (pc3 := 126) rfl (c_Sh_small (d - 1) (by omega) q3 hq3 v9 σ) (fun Q => g_callV (M2 := m_Sh_small) (vs := [.int v9]) (st := [.int (1 : Int32), .int v10, .int v5]) lv_RX10_149 hq3 rfl rfl (Nat.le_of_ble_eq_true rfl) (by omega) (Nat.le_of_ble_eq_true rfl) rfl d_T_days_123) (fun q18 => ?_)
  refine S.of1 (pc2 := 127) (fun Q => g_ishl d_T_days_126) ?_
  refine S.br (c := v10 = ((1 : Int32) <<< (q18 &&& 31))) (t := 130) (e := 134) (fun Q kt kf => g_icmp_ne d_T_days_127 rfl kf kt) (fun h19 => ?_) (fun h19 => ?_)
  · refine S.of1 (pc2 := 131) (fun Q => g_iconst (v := (1 : Int32)) d_T_days_130 (by decide)) ?_
    refine S.of1 (pc2 := 135) (fun Q => g_goto d_T_days_131 rfl) ?_
    exact S.wk (L2 := [some (.ref 0), none, some (.int v2), some (.ref q3), some (.int (s1 + s0)), none, some (.int v6), some (.int v7), some (.int v8), some (.int v9), some (.int v10)]) (And.intro rfl (And.intro rfl (And.intro rfl (And.intro rfl (And.intro rfl (And.intro rfl (And.intro rfl (And.intro rfl (And.intro rfl trivial))))))))) (s_T_days_j135 d hd k59 hk59 v2 q3 hq3 (s1 + s0) v6 v7 v8 v9 v10 (1 : Int32) v5 σ)
  · refine S.of1 (pc2 := 135) (fun Q => g_iconst (v := (0 : Int32)) d_T_days_134 (by decide)) ?_
    exact S.wk (L2 := [some (.ref 0), none, some (.int v2), some (.ref q3), some (.int (s1 + s0)), none, some (.int v6), some (.int v7), some (.int v8), some (.int v9), some (.int v10)]) (And.intro rfl (And.intro rfl (And.intro rfl (And.intro rfl (And.intro rfl (And.intro rfl (And.intro rfl (And.intro rfl (And.intro rfl trivial))))))))) (s_T_days_j135 d hd k59 hk59 v2 q3 hq3 (s1 + s0) v6 v7 v8 v9 v10 (0 : Int32) v5 σ)
def f_T_days_L59 : Nat → Int32 → Nat → Int32 → Int32 → Int32 → Int32 → Int32 → Int32 → gS → Option (Int32 × gS)
  | 0, _, _, _, _, _, _, _, _, _ => none
  | n + 1, v2, q3, v4, v5, v6, v7, v8, v9, σ =>
  if v8 ≤ v9 then if v2 = 0 then some (v4, σ) else if v2 = (1 : Int32) then some (v5, σ) else some (v7, σ) else (f_Sh_small q3 v9 σ).bind fun q13 => (f_T_dayBehind v9 σ).bind fun q14 => (f_Cr_gather 11 q13 q14 σ).bind fun s15 => (f_Cr_happened 11 (10 : Int32) s15).bind fun q16 => if q16.1 = 0 then f_T_days_j112 (fun v2 q3 v4 v5 v6 v7 v8 v9 σ => f_T_days_L59 n v2 q3 v4 v5 v6 v7 v8 v9 σ) v2 q3 v5 v6 v7 v8 v9 q16.1 (0 : Int32) v4 q16.2 else f_T_days_j112 (fun v2 q3 v4 v5 v6 v7 v8 v9 σ => f_T_days_L59 n v2 q3 v4 v5 v6 v7 v8 v9 σ) v2 q3 v5 v6 v7 v8 v9 q16.1 (1 : Int32) v4 q16.2
theorem s_T_days_L59 (d : Nat) (hd : 5 ≤ d) : ∀ (n : Nat) (v2 : Int32) (q3 : Nat) (hq3 : gcls q3 = some 8) (v4 : Int32) (v5 : Int32) (v6 : Int32) (v7 : Int32) (v8 : Int32) (v9 : Int32) (σ : gS), S wI m_T_days d 59 [some (.ref 0), none, some (.int v2), some (.ref q3), some (.int v4), some (.int v5), some (.int v6), some (.int v7), some (.int v8), some (.int v9), none] [] σ (f_T_days_L59 n v2 q3 v4 v5 v6 v7 v8 v9 σ) := by
  intro n
  induction n with
  | zero =>
    intros
    unfold f_T_days_L59
    exact S.no
  | succ n ih =>
    intro v2 q3 hq3 v4 v5 v6 v7 v8 v9 σ
    unfold f_T_days_L59
    refine S.of1 (pc2 := 61) (fun Q => g_iload d_T_days_59 rfl) ?_
    refine S.of1 (pc2 := 63) (fun Q => g_iload d_T_days_61 rfl) ?_
    refine S.br (c := v8 ≤ v9) (t := 168) (e := 66) (fun Q kt kf => g_icmp_ge d_T_days_63 rfl kt kf) (fun h10 => ?_) (fun h10 => ?_)
    · refine S.of1 (pc2 := 169) (fun Q => g_iload_n d_T_days_168 rfl) ?_
      refine S.br (c := v2 = 0) (t := 172) (e := 177) (fun Q kt kf => g_if_ne d_T_days_169 rfl kf kt) (fun h11 => ?_) (fun h11 => ?_)
      · refine S.of1 (pc2 := 174) (fun Q => g_iload d_T_days_172 rfl) ?_
        refine S.of1 (pc2 := 189) (fun Q => g_goto d_T_days_174 rfl) ?_
        exact S.ret (fun Q hq => g_iret rfl d_T_days_189 hq)
      · refine S.of1 (pc2 := 178) (fun Q => g_iload_n d_T_days_177 rfl) ?_
        refine S.of1 (pc2 := 179) (fun Q => g_iconst (v := (1 : Int32)) d_T_days_178 (by decide)) ?_
        refine S.br (c := v2 = (1 : Int32)) (t := 182) (e := 187) (fun Q kt kf => g_icmp_ne d_T_days_179 rfl kf kt) (fun h12 => ?_) (fun h12 => ?_)
        · refine S.of1 (pc2 := 184) (fun Q => g_iload d_T_days_182 rfl) ?_
          refine S.of1 (pc2 := 189) (fun Q => g_goto d_T_days_184 rfl) ?_
          exact S.ret (fun Q hq => g_iret rfl d_T_days_189 hq)
        · refine S.of1 (pc2 := 189) (fun Q => g_iload d_T_days_187 rfl) ?_
          exact S.ret (fun Q hq => g_iret rfl d_T_days_189 hq)
    · refine S.of1 (pc2 := 67) (fun Q => g_aload_n d_T_days_66 rfl) ?_
      refine S.of1 (pc2 := 70) (fun Q => g_getr fl_RX10_19 gc_0_1 d_T_days_67) ?_
      refine S.of1 (pc2 := 71) (fun Q => g_aload_n d_T_days_70 rfl) ?_
      refine S.of1 (pc2 := 74) (fun Q => g_getr fl_RX10_10 gc_0_0 d_T_days_71) ?_
      refine S.of1 (pc2 := 75) (fun Q => g_aload_n d_T_days_74 rfl) ?_
      refine S.of1 (pc2 := 77) (fun Q => g_iload d_T_days_75 rfl) ?_
      refine S.call_rI (pc3 := 80) rfl (c_Sh_small (d - 1) (by omega) q3 hq3 v9 σ) (fun Q => g_callV (M2 := m_Sh_small) (vs := [.int v9]) (st := [.ref 1, .ref 11]) lv_RX10_149 hq3 rfl rfl (Nat.le_of_ble_eq_true rfl) (by omega) (Nat.le_of_ble_eq_true rfl) rfl d_T_days_77) (fun q13 => ?_)
      refine S.of1 (pc2 := 81) (fun Q => g_aload_n d_T_days_80 rfl) ?_
      refine S.of1 (pc2 := 83) (fun Q => g_iload d_T_days_81 rfl) ?_
      refine S.call_rI (pc3 := 86) rfl (c_T_dayBehind (d - 1) (by omega) v9 σ) (fun Q => g_callV (M2 := m_T_dayBehind) (vs := [.int v9]) (st := [.int q13, .ref 1, .ref 11]) lv_RX10_217 gk_0 rfl rfl (Nat.le_of_ble_eq_true rfl) (by omega) (Nat.le_of_ble_eq_true rfl) rfl d_T_days_83) (fun q14 => ?_)
      refine S.call_wV (pc3 := 89) rfl (c_Cr_gather (d - 1) (by omega) 11 gk_11 q13 q14 σ) (fun Q => g_callV (M2 := m_Cr_gather) (vs := [.ref 1, .int q13, .int q14]) (st := []) lv_RX10_220 gk_11 rfl rfl (Nat.le_of_ble_eq_true rfl) (by omega) (Nat.le_of_ble_eq_true rfl) rfl d_T_days_86) (fun s15 => ?_)
      refine S.of1 (pc2 := 90) (fun Q => g_aload_n d_T_days_89 rfl) ?_
      refine S.of1 (pc2 := 93) (fun Q => g_getr fl_RX10_19 gc_0_1 d_T_days_90) ?_
      refine S.of1 (pc2 := 95) (fun Q => g_bipush (v := (10 : Int32)) d_T_days_93 (by decide)) ?_
      refine S.call_wI (pc3 := 98) rfl (c_Cr_happened (d - 1) (by omega) 11 gk_11 (10 : Int32) s15) (fun Q => g_callV (M2 := m_Cr_happened) (vs := [.int (10 : Int32)]) (st := []) lv_RX10_136 gk_11 rfl rfl (Nat.le_of_ble_eq_true rfl) (by omega) (Nat.le_of_ble_eq_true rfl) rfl d_T_days_95) (fun q16 => ?_)
      refine S.of1 (pc2 := 100) (L2 := [some (.ref 0), none, some (.int v2), some (.ref q3), some (.int v4), some (.int v5), some (.int v6), some (.int v7), some (.int v8), some (.int v9), some (.int q16.1)]) (fun Q => g_istore d_T_days_98 (Nat.le_of_ble_eq_true rfl) rfl) ?_
      refine S.of1 (pc2 := 102) (fun Q => g_iload d_T_days_100 rfl) ?_
      refine S.of1 (pc2 := 104) (fun Q => g_iload d_T_days_102 rfl) ?_
      refine S.br (c := q16.1 = 0) (t := 111) (e := 107) (fun Q kt kf => g_if_eq d_T_days_104 rfl kt kf) (fun h17 => ?_) (fun h17 => ?_)
      · refine S.of1 (pc2 := 112) (fun Q => g_iconst (v := (0 : Int32)) d_T_days_111 (by decide)) ?_
        exact S.wk (L2 := [some (.ref 0), none, some (.int v2), some (.ref q3), none, some (.int v5), some (.int v6), some (.int v7), some (.int v8), some (.int v9), some (.int q16.1)]) (And.intro rfl (And.intro rfl (And.intro rfl (And.intro rfl (And.intro rfl (And.intro rfl (And.intro rfl (And.intro rfl (And.intro rfl trivial))))))))) (s_T_days_j112 d hd (fun v2 q3 v4 v5 v6 v7 v8 v9 σ => f_T_days_L59 n v2 q3 v4 v5 v6 v7 v8 v9 σ) (fun v2 q3 hq3 v4 v5 v6 v7 v8 v9 τ => ih v2 q3 hq3 v4 v5 v6 v7 v8 v9 τ) v2 q3 hq3 v5 v6 v7 v8 v9 q16.1 (0 : Int32) v4 q16.2)
      · refine S.of1 (pc2 := 108) (fun Q => g_iconst (v := (1 : Int32)) d_T_days_107 (by decide)) ?_
        refine S.of1 (pc2 := 112) (fun Q => g_goto d_T_days_108 rfl) ?_
        exact S.wk (L2 := [some (.ref 0), none, some (.int v2), some (.ref q3), none, some (.int v5), some (.int v6), some (.int v7), some (.int v8), some (.int v9), some (.int q16.1)]) (And.intro rfl (And.intro rfl (And.intro rfl (And.intro rfl (And.intro rfl (And.intro rfl (And.intro rfl (And.intro rfl (And.intro rfl trivial))))))))) (s_T_days_j112 d hd (fun v2 q3 v4 v5 v6 v7 v8 v9 σ => f_T_days_L59 n v2 q3 v4 v5 v6 v7 v8 v9 σ) (fun v2 q3 hq3 v4 v5 v6 v7 v8 v9 τ => ih v2 q3 hq3 v4 v5 v6 v7 v8 v9 τ) v2 q3 hq3 v5 v6 v7 v8 v9 q16.1 (1 : Int32) v4 q16.2)
def f_T_days (v1 : Int32) (v2 : Int32) (σ : gS) : Option (Int32 × gS) :=
  (f_T_within v1 (6 : Int32)).bind fun q1 => if q1 = 0 then some ((-1 : Int32), σ) else (f_T_within v2 (3 : Int32)).bind fun q3 => if q3 = 0 then some ((-1 : Int32), σ) else if gix v1 6 then (f_Sh_isOfBytes (gshc v1) σ).bind fun q6 => if q6 = 0 then (f_Sh_refusal (gshc v1) σ).bind fun q8 => some (q8, σ) else (f_T_daysOn (gshc v1) σ).bind fun q9 => f_T_days_L59 gfu v2 (gshc v1) (0 : Int32) (0 : Int32) (0 : Int32) (0 : Int32) q9 (0 : Int32) σ else none
theorem c_T_days (d : Nat) (hd : 5 ≤ d) (v1 : Int32) (v2 : Int32) (σ : gS) : C wI d m_T_days [.ref 0, .int v1, .int v2] σ (f_T_days v1 v2 σ) := by
  unfold f_T_days
  refine C.of (by decide +kernel) (Nat.le_of_ble_eq_true rfl) (L := [some (.ref 0), some (.int v1), some (.int v2), none, none, none, none, none, none, none, none]) rfl ?_
  refine S.of1 (pc2 := 1) (fun Q => g_iload_n d_T_days_0 rfl) ?_
  refine S.of1 (pc2 := 3) (fun Q => g_bipush (v := (6 : Int32)) d_T_days_1 (by decide)) ?_
  refine S.call_rI (pc3 := 6) rfl (c_T_within (d - 1) (by omega) v1 (6 : Int32) σ) (fun Q => g_callS (M2 := m_T_within) (vs := [.int v1, .int (6 : Int32)]) (st := []) ls_RX10_72 rfl (Nat.le_of_ble_eq_true rfl) (by omega) (Nat.le_of_ble_eq_true rfl) rfl d_T_days_3) (fun q1 => ?_)
  refine S.br (c := q1 = 0) (t := 17) (e := 9) (fun Q kt kf => g_if_eq d_T_days_6 rfl kt kf) (fun h2 => ?_) (fun h2 => ?_)
  · refine S.of1 (pc2 := 18) (fun Q => g_iconst (v := (-1 : Int32)) d_T_days_17 (by decide)) ?_
    exact S.ret (fun Q hq => g_iret rfl d_T_days_18 hq)
  · refine S.of1 (pc2 := 10) (fun Q => g_iload_n d_T_days_9 rfl) ?_
    refine S.of1 (pc2 := 11) (fun Q => g_iconst (v := (3 : Int32)) d_T_days_10 (by decide)) ?_
    refine S.call_rI (pc3 := 14) rfl (c_T_within (d - 1) (by omega) v2 (3 : Int32) σ) (fun Q => g_callS (M2 := m_T_within) (vs := [.int v2, .int (3 : Int32)]) (st := []) ls_RX10_72 rfl (Nat.le_of_ble_eq_true rfl) (by omega) (Nat.le_of_ble_eq_true rfl) rfl d_T_days_11) (fun q3 => ?_)
    refine S.br (c := q3 = 0) (t := 17) (e := 19) (fun Q kt kf => g_if_ne d_T_days_14 rfl kf kt) (fun h4 => ?_) (fun h4 => ?_)
    · refine S.of1 (pc2 := 18) (fun Q => g_iconst (v := (-1 : Int32)) d_T_days_17 (by decide)) ?_
      exact S.ret (fun Q hq => g_iret rfl d_T_days_18 hq)
    · refine S.of1 (pc2 := 20) (fun Q => g_aload_n d_T_days_19 rfl) ?_
      refine S.of1 (pc2 := 23) (fun Q => g_getr fl_RX10_67 gc_0_8 d_T_days_20) ?_
      refine S.of1 (pc2 := 24) (fun Q => g_iload_n d_T_days_23 rfl) ?_
      refine S.chk (fun h5 => ?_)
      refine S.of1 (pc2 := 25) (fun Q => g_aald gra_46 (gix_in h5) (gsh_get h5) d_T_days_24) ?_
      refine S.of1 (pc2 := 26) (L2 := [some (.ref 0), some (.int v1), some (.int v2), some (.ref (gshc v1)), none, none, none, none, none, none, none]) (fun Q => g_astore_n d_T_days_25 (Nat.le_of_ble_eq_true rfl) rfl) ?_
      refine S.of1 (pc2 := 27) (fun Q => g_aload_n d_T_days_26 rfl) ?_
      refine S.call_rI (pc3 := 30) rfl (c_Sh_isOfBytes (d - 1) (by omega) (gshc v1) (gsh_cls h5) σ) (fun Q => g_callV (M2 := m_Sh_isOfBytes) (vs := []) (st := []) lv_RX10_84 (gsh_cls h5) rfl rfl (Nat.le_of_ble_eq_true rfl) (by omega) (Nat.le_of_ble_eq_true rfl) rfl d_T_days_27) (fun q6 => ?_)
      refine S.br (c := q6 = 0) (t := 33) (e := 38) (fun Q kt kf => g_if_ne d_T_days_30 rfl kf kt) (fun h7 => ?_) (fun h7 => ?_)
      · refine S.of1 (pc2 := 34) (fun Q => g_aload_n d_T_days_33 rfl) ?_
        refine S.call_rI (pc3 := 37) rfl (c_Sh_refusal (d - 1) (by omega) (gshc v1) (gsh_cls h5) σ) (fun Q => g_callV (M2 := m_Sh_refusal) (vs := []) (st := []) lv_RX10_146 (gsh_cls h5) rfl rfl (Nat.le_of_ble_eq_true rfl) (by omega) (Nat.le_of_ble_eq_true rfl) rfl d_T_days_34) (fun q8 => ?_)
        exact S.ret (fun Q hq => g_iret rfl d_T_days_37 hq)
      · refine S.of1 (pc2 := 39) (fun Q => g_iconst (v := (0 : Int32)) d_T_days_38 (by decide)) ?_
        refine S.of1 (pc2 := 41) (L2 := [some (.ref 0), some (.int v1), some (.int v2), some (.ref (gshc v1)), some (.int (0 : Int32)), none, none, none, none, none, none]) (fun Q => g_istore d_T_days_39 (Nat.le_of_ble_eq_true rfl) rfl) ?_
        refine S.of1 (pc2 := 42) (fun Q => g_iconst (v := (0 : Int32)) d_T_days_41 (by decide)) ?_
        refine S.of1 (pc2 := 44) (L2 := [some (.ref 0), some (.int v1), some (.int v2), some (.ref (gshc v1)), some (.int (0 : Int32)), some (.int (0 : Int32)), none, none, none, none, none]) (fun Q => g_istore d_T_days_42 (Nat.le_of_ble_eq_true rfl) rfl) ?_
        refine S.of1 (pc2 := 45) (fun Q => g_iconst (v := (0 : Int32)) d_T_days_44 (by decide)) ?_
        refine S.of1 (pc2 := 47) (L2 := [some (.ref 0), some (.int v1), some (.int v2), some (.ref (gshc v1)), some (.int (0 : Int32)), some (.int (0 : Int32)), some (.int (0 : Int32)), none, none, none, none]) (fun Q => g_istore d_T_days_45 (Nat.le_of_ble_eq_true rfl) rfl) ?_
        refine S.of1 (pc2 := 48) (fun Q => g_iconst (v := (0 : Int32)) d_T_days_47 (by decide)) ?_
        refine S.of1 (pc2 := 50) (L2 := [some (.ref 0), some (.int v1), some (.int v2), some (.ref (gshc v1)), some (.int (0 : Int32)), some (.int (0 : Int32)), some (.int (0 : Int32)), some (.int (0 : Int32)), none, none, none]) (fun Q => g_istore d_T_days_48 (Nat.le_of_ble_eq_true rfl) rfl) ?_
        refine S.of1 (pc2 := 51) (fun Q => g_aload_n d_T_days_50 rfl) ?_
        refine S.call_rI (pc3 := 54) rfl (c_T_daysOn (d - 1) (by omega) (gshc v1) (gsh_cls h5) σ) (fun Q => g_callS (M2 := m_T_daysOn) (vs := [.ref (gshc v1)]) (st := []) ls_RX10_213 rfl (Nat.le_of_ble_eq_true rfl) (by omega) (Nat.le_of_ble_eq_true rfl) rfl d_T_days_51) (fun q9 => ?_)
        refine S.of1 (pc2 := 56) (L2 := [some (.ref 0), some (.int v1), some (.int v2), some (.ref (gshc v1)), some (.int (0 : Int32)), some (.int (0 : Int32)), some (.int (0 : Int32)), some (.int (0 : Int32)), some (.int q9), none, none]) (fun Q => g_istore d_T_days_54 (Nat.le_of_ble_eq_true rfl) rfl) ?_
        refine S.of1 (pc2 := 57) (fun Q => g_iconst (v := (0 : Int32)) d_T_days_56 (by decide)) ?_
        refine S.of1 (pc2 := 59) (L2 := [some (.ref 0), some (.int v1), some (.int v2), some (.ref (gshc v1)), some (.int (0 : Int32)), some (.int (0 : Int32)), some (.int (0 : Int32)), some (.int (0 : Int32)), some (.int q9), some (.int (0 : Int32)), none]) (fun Q => g_istore d_T_days_57 (Nat.le_of_ble_eq_true rfl) rfl) ?_
        exact S.wk (L2 := [some (.ref 0), none, some (.int v2), some (.ref (gshc v1)), some (.int (0 : Int32)), some (.int (0 : Int32)), some (.int (0 : Int32)), some (.int (0 : Int32)), some (.int q9), some (.int (0 : Int32)), none]) (And.intro rfl (And.intro rfl (And.intro rfl (And.intro rfl (And.intro rfl (And.intro rfl (And.intro rfl (And.intro rfl (And.intro rfl trivial))))))))) (s_T_days_L59 d hd gfu v2 (gshc v1) (gsh_cls h5) (0 : Int32) (0 : Int32) (0 : Int32) (0 : Int32) q9 (0 : Int32) σ)
def f_T_areOfBytes (v1 : Int32) (σ : gS) : Option Int32 :=
  (f_T_areTwo v1 (6 : Int32)).bind fun q1 => if q1 = 0 then some (0 : Int32) else if gix (v1 / (10 : Int32)) 6 then (f_Sh_isOfBytes (gshc (v1 / (10 : Int32))) σ).bind fun q4 => if q4 = 0 then some (0 : Int32) else if gix (grem v1 (10 : Int32)) 6 then (f_Sh_isOfBytes (gshc (grem v1 (10 : Int32))) σ).bind fun q7 => if q7 = 0 then some (0 : Int32) else some (1 : Int32) else none else none
theorem c_T_areOfBytes (d : Nat) (hd : 2 ≤ d) (v1 : Int32) (σ : gS) : C (rI σ) d m_T_areOfBytes [.ref 0, .int v1] σ (f_T_areOfBytes v1 σ) := by
  unfold f_T_areOfBytes
  refine C.of (by decide +kernel) (Nat.le_of_ble_eq_true rfl) (L := [some (.ref 0), some (.int v1)]) rfl ?_
  refine S.of1 (pc2 := 1) (fun Q => g_iload_n d_T_areOfBytes_0 rfl) ?_
  refine S.of1 (pc2 := 3) (fun Q => g_bipush (v := (6 : Int32)) d_T_areOfBytes_1 (by decide)) ?_
  refine S.call_rI (pc3 := 6) rfl (c_T_areTwo (d - 1) (by omega) v1 (6 : Int32) σ) (fun Q => g_callS (M2 := m_T_areTwo) (vs := [.int v1, .int (6 : Int32)]) (st := []) ls_RX10_174 rfl (Nat.le_of_ble_eq_true rfl) (by omega) (Nat.le_of_ble_eq_true rfl) rfl d_T_areOfBytes_3) (fun q1 => ?_)
  refine S.br (c := q1 = 0) (t := 43) (e := 9) (fun Q kt kf => g_if_eq d_T_areOfBytes_6 rfl kt kf) (fun h2 => ?_) (fun h2 => ?_)
  · refine S.of1 (pc2 := 44) (fun Q => g_iconst (v := (0 : Int32)) d_T_areOfBytes_43 (by decide)) ?_
    exact S.ret (fun Q hq => g_zret rfl rfl d_T_areOfBytes_44 hq)
  · refine S.of1 (pc2 := 10) (fun Q => g_aload_n d_T_areOfBytes_9 rfl) ?_
    refine S.of1 (pc2 := 13) (fun Q => g_getr fl_RX10_67 gc_0_8 d_T_areOfBytes_10) ?_
    refine S.of1 (pc2 := 14) (fun Q => g_iload_n d_T_areOfBytes_13 rfl) ?_
    refine S.of1 (pc2 := 16) (fun Q => g_bipush (v := (10 : Int32)) d_T_areOfBytes_14 (by decide)) ?_
    refine S.of1 (pc2 := 17) (fun Q => g_idiv d_T_areOfBytes_16 (by decide)) ?_
    refine S.chk (fun h3 => ?_)
    refine S.of1 (pc2 := 18) (fun Q => g_aald gra_46 (gix_in h3) (gsh_get h3) d_T_areOfBytes_17) ?_
    refine S.call_rI (pc3 := 21) rfl (c_Sh_isOfBytes (d - 1) (by omega) (gshc (v1 / (10 : Int32))) (gsh_cls h3) σ) (fun Q => g_callV (M2 := m_Sh_isOfBytes) (vs := []) (st := []) lv_RX10_84 (gsh_cls h3) rfl rfl (Nat.le_of_ble_eq_true rfl) (by omega) (Nat.le_of_ble_eq_true rfl) rfl d_T_areOfBytes_18) (fun q4 => ?_)
    refine S.br (c := q4 = 0) (t := 43) (e := 24) (fun Q kt kf => g_if_eq d_T_areOfBytes_21 rfl kt kf) (fun h5 => ?_) (fun h5 => ?_)
    · refine S.of1 (pc2 := 44) (fun Q => g_iconst (v := (0 : Int32)) d_T_areOfBytes_43 (by decide)) ?_
      exact S.ret (fun Q hq => g_zret rfl rfl d_T_areOfBytes_44 hq)
    · refine S.of1 (pc2 := 25) (fun Q => g_aload_n d_T_areOfBytes_24 rfl) ?_
      refine S.of1 (pc2 := 28) (fun Q => g_getr fl_RX10_67 gc_0_8 d_T_areOfBytes_25) ?_
      refine S.of1 (pc2 := 29) (fun Q => g_iload_n d_T_areOfBytes_28 rfl) ?_
      refine S.of1 (pc2 := 31) (fun Q => g_bipush (v := (10 : Int32)) d_T_areOfBytes_29 (by decide)) ?_
      refine S.of1 (pc2 := 32) (fun Q => g_irem d_T_areOfBytes_31 (by decide)) ?_
      refine S.chk (fun h6 => ?_)
      refine S.of1 (pc2 := 33) (fun Q => g_aald gra_46 (gix_in h6) (gsh_get h6) d_T_areOfBytes_32) ?_
      refine S.call_rI (pc3 := 36) rfl (c_Sh_isOfBytes (d - 1) (by omega) (gshc (grem v1 (10 : Int32))) (gsh_cls h6) σ) (fun Q => g_callV (M2 := m_Sh_isOfBytes) (vs := []) (st := []) lv_RX10_84 (gsh_cls h6) rfl rfl (Nat.le_of_ble_eq_true rfl) (by omega) (Nat.le_of_ble_eq_true rfl) rfl d_T_areOfBytes_33) (fun q7 => ?_)
      refine S.br (c := q7 = 0) (t := 43) (e := 39) (fun Q kt kf => g_if_eq d_T_areOfBytes_36 rfl kt kf) (fun h8 => ?_) (fun h8 => ?_)
      · refine S.of1 (pc2 := 44) (fun Q => g_iconst (v := (0 : Int32)) d_T_areOfBytes_43 (by decide)) ?_
        exact S.ret (fun Q hq => g_zret rfl rfl d_T_areOfBytes_44 hq)
      · refine S.of1 (pc2 := 40) (fun Q => g_iconst (v := (1 : Int32)) d_T_areOfBytes_39 (by decide)) ?_
        refine S.of1 (pc2 := 44) (fun Q => g_goto d_T_areOfBytes_40 rfl) ?_
        exact S.ret (fun Q hq => g_zret rfl rfl d_T_areOfBytes_44 hq)
def f_T_refusalOfTwo (v1 : Int32) (σ : gS) : Option Int32 :=
  (f_T_areTwo v1 (6 : Int32)).bind fun q1 => if q1 = 0 then some (-1 : Int32) else if gix (v1 / (10 : Int32)) 6 then (f_Sh_isOfBytes (gshc (v1 / (10 : Int32))) σ).bind fun q4 => if q4 = 0 then if gix (v1 / (10 : Int32)) 6 then (f_Sh_refusal (gshc (v1 / (10 : Int32))) σ).bind fun q7 => some q7 else none else if gix (grem v1 (10 : Int32)) 6 then (f_Sh_refusal (gshc (grem v1 (10 : Int32))) σ).bind fun q9 => some q9 else none else none
theorem c_T_refusalOfTwo (d : Nat) (hd : 2 ≤ d) (v1 : Int32) (σ : gS) : C (rI σ) d m_T_refusalOfTwo [.ref 0, .int v1] σ (f_T_refusalOfTwo v1 σ) := by
  unfold f_T_refusalOfTwo
  refine C.of (by decide +kernel) (Nat.le_of_ble_eq_true rfl) (L := [some (.ref 0), some (.int v1)]) rfl ?_
  refine S.of1 (pc2 := 1) (fun Q => g_iload_n d_T_refusalOfTwo_0 rfl) ?_
  refine S.of1 (pc2 := 3) (fun Q => g_bipush (v := (6 : Int32)) d_T_refusalOfTwo_1 (by decide)) ?_
  refine S.call_rI (pc3 := 6) rfl (c_T_areTwo (d - 1) (by omega) v1 (6 : Int32) σ) (fun Q => g_callS (M2 := m_T_areTwo) (vs := [.int v1, .int (6 : Int32)]) (st := []) ls_RX10_174 rfl (Nat.le_of_ble_eq_true rfl) (by omega) (Nat.le_of_ble_eq_true rfl) rfl d_T_refusalOfTwo_3) (fun q1 => ?_)
  refine S.br (c := q1 = 0) (t := 9) (e := 11) (fun Q kt kf => g_if_ne d_T_refusalOfTwo_6 rfl kf kt) (fun h2 => ?_) (fun h2 => ?_)
  · refine S.of1 (pc2 := 10) (fun Q => g_iconst (v := (-1 : Int32)) d_T_refusalOfTwo_9 (by decide)) ?_
    exact S.ret (fun Q hq => g_iret rfl d_T_refusalOfTwo_10 hq)
  · refine S.of1 (pc2 := 12) (fun Q => g_aload_n d_T_refusalOfTwo_11 rfl) ?_
    refine S.of1 (pc2 := 15) (fun Q => g_getr fl_RX10_67 gc_0_8 d_T_refusalOfTwo_12) ?_
    refine S.of1 (pc2 := 16) (fun Q => g_iload_n d_T_refusalOfTwo_15 rfl) ?_
    refine S.of1 (pc2 := 18) (fun Q => g_bipush (v := (10 : Int32)) d_T_refusalOfTwo_16 (by decide)) ?_
    refine S.of1 (pc2 := 19) (fun Q => g_idiv d_T_refusalOfTwo_18 (by decide)) ?_
    refine S.chk (fun h3 => ?_)
    refine S.of1 (pc2 := 20) (fun Q => g_aald gra_46 (gix_in h3) (gsh_get h3) d_T_refusalOfTwo_19) ?_
    refine S.call_rI (pc3 := 23) rfl (c_Sh_isOfBytes (d - 1) (by omega) (gshc (v1 / (10 : Int32))) (gsh_cls h3) σ) (fun Q => g_callV (M2 := m_Sh_isOfBytes) (vs := []) (st := []) lv_RX10_84 (gsh_cls h3) rfl rfl (Nat.le_of_ble_eq_true rfl) (by omega) (Nat.le_of_ble_eq_true rfl) rfl d_T_refusalOfTwo_20) (fun q4 => ?_)
    refine S.br (c := q4 = 0) (t := 41) (e := 26) (fun Q kt kf => g_if_eq d_T_refusalOfTwo_23 rfl kt kf) (fun h5 => ?_) (fun h5 => ?_)
    · refine S.of1 (pc2 := 42) (fun Q => g_aload_n d_T_refusalOfTwo_41 rfl) ?_
      refine S.of1 (pc2 := 45) (fun Q => g_getr fl_RX10_67 gc_0_8 d_T_refusalOfTwo_42) ?_
      refine S.of1 (pc2 := 46) (fun Q => g_iload_n d_T_refusalOfTwo_45 rfl) ?_
      refine S.of1 (pc2 := 48) (fun Q => g_bipush (v := (10 : Int32)) d_T_refusalOfTwo_46 (by decide)) ?_
      refine S.of1 (pc2 := 49) (fun Q => g_idiv d_T_refusalOfTwo_48 (by decide)) ?_
      refine S.chk (fun h6 => ?_)
      refine S.of1 (pc2 := 50) (fun Q => g_aald gra_46 (gix_in h6) (gsh_get h6) d_T_refusalOfTwo_49) ?_
      refine S.call_rI (pc3 := 53) rfl (c_Sh_refusal (d - 1) (by omega) (gshc (v1 / (10 : Int32))) (gsh_cls h6) σ) (fun Q => g_callV (M2 := m_Sh_refusal) (vs := []) (st := []) lv_RX10_146 (gsh_cls h6) rfl rfl (Nat.le_of_ble_eq_true rfl) (by omega) (Nat.le_of_ble_eq_true rfl) rfl d_T_refusalOfTwo_50) (fun q7 => ?_)
      exact S.ret (fun Q hq => g_iret rfl d_T_refusalOfTwo_53 hq)
    · refine S.of1 (pc2 := 27) (fun Q => g_aload_n d_T_refusalOfTwo_26 rfl) ?_
      refine S.of1 (pc2 := 30) (fun Q => g_getr fl_RX10_67 gc_0_8 d_T_refusalOfTwo_27) ?_
      refine S.of1 (pc2 := 31) (fun Q => g_iload_n d_T_refusalOfTwo_30 rfl) ?_
      refine S.of1 (pc2 := 33) (fun Q => g_bipush (v := (10 : Int32)) d_T_refusalOfTwo_31 (by decide)) ?_
      refine S.of1 (pc2 := 34) (fun Q => g_irem d_T_refusalOfTwo_33 (by decide)) ?_
      refine S.chk (fun h8 => ?_)
      refine S.of1 (pc2 := 35) (fun Q => g_aald gra_46 (gix_in h8) (gsh_get h8) d_T_refusalOfTwo_34) ?_
      refine S.call_rI (pc3 := 38) rfl (c_Sh_refusal (d - 1) (by omega) (gshc (grem v1 (10 : Int32))) (gsh_cls h8) σ) (fun Q => g_callV (M2 := m_Sh_refusal) (vs := []) (st := []) lv_RX10_146 (gsh_cls h8) rfl rfl (Nat.le_of_ble_eq_true rfl) (by omega) (Nat.le_of_ble_eq_true rfl) rfl d_T_refusalOfTwo_35) (fun q9 => ?_)
      refine S.of1 (pc2 := 53) (fun Q => g_goto d_T_refusalOfTwo_38 rfl) ?_
      exact S.ret (fun Q hq => g_iret rfl d_T_refusalOfTwo_53 hq)
def f_T_judge_L54 : Nat → Nat → Nat → Int32 → Int32 → gS → Option (Int32 × gS)
  | 0, _, _, _, _, _ => none
  | n + 1, q2, q3, v4, v5, σ =>
  if (σ.1 q3 4) ≤ v5 then some ((-2 : Int32), σ) else if v5 < v4 then (f_Sh_small q2 v5 σ).bind fun q11 => (f_T_dayBehind v5 σ).bind fun q12 => (f_Cr_gather 11 q11 q12 σ).bind fun s13 => (f_Cr_happened 11 (10 : Int32) s13).bind fun q14 => (f_Sh_small q3 v5 q14.2).bind fun q15 => if q14.1 = q15 then (fun q2 q3 v4 v5 σ => f_T_judge_L54 n q2 q3 v4 v5 σ) q2 q3 v4 (v5 + (1 : Int32)) q14.2 else some (v5, q14.2) else some (v5, σ)
theorem s_T_judge_L54 (d : Nat) (hd : 5 ≤ d) : ∀ (n : Nat) (q2 : Nat) (hq2 : gcls q2 = some 8) (q3 : Nat) (hq3 : gcls q3 = some 8) (v4 : Int32) (v5 : Int32) (σ : gS), S wI m_T_judge d 54 [some (.ref 0), none, some (.ref q2), some (.ref q3), some (.int v4), some (.int v5)] [] σ (f_T_judge_L54 n q2 q3 v4 v5 σ) := by
  intro n
  induction n with
  | zero =>
    intros
    unfold f_T_judge_L54
    exact S.no
  | succ n ih =>
    intro q2 hq2 q3 hq3 v4 v5 σ
    unfold f_T_judge_L54
    refine S.of1 (pc2 := 56) (fun Q => g_iload d_T_judge_54 rfl) ?_
    refine S.of1 (pc2 := 57) (fun Q => g_aload_n d_T_judge_56 rfl) ?_
    refine S.of1 (pc2 := 60) (fun Q => g_geti fl_RX10_235 (gq_8_4 hq3) d_T_judge_57) ?_
    refine S.br (c := (σ.1 q3 4) ≤ v5) (t := 123) (e := 63) (fun Q kt kf => g_icmp_ge d_T_judge_60 rfl kt kf) (fun h9 => ?_) (fun h9 => ?_)
    · refine S.of1 (pc2 := 125) (fun Q => g_bipush (v := (-2 : Int32)) d_T_judge_123 (by decide)) ?_
      exact S.ret (fun Q hq => g_iret rfl d_T_judge_125 hq)
    · refine S.of1 (pc2 := 65) (fun Q => g_iload d_T_judge_63 rfl) ?_
      refine S.of1 (pc2 := 67) (fun Q => g_iload d_T_judge_65 rfl) ?_
      refine S.br (c := v5 < v4) (t := 73) (e := 70) (fun Q kt kf => g_icmp_lt d_T_judge_67 rfl kt kf) (fun h10 => ?_) (fun h10 => ?_)
      · refine S.of1 (pc2 := 74) (fun Q => g_aload_n d_T_judge_73 rfl) ?_
        refine S.of1 (pc2 := 77) (fun Q => g_getr fl_RX10_19 gc_0_1 d_T_judge_74) ?_
        refine S.of1 (pc2 := 78) (fun Q => g_aload_n d_T_judge_77 rfl) ?_
        refine S.of1 (pc2 := 81) (fun Q => g_getr fl_RX10_10 gc_0_0 d_T_judge_78) ?_
        refine S.of1 (pc2 := 82) (fun Q => g_aload_n d_T_judge_81 rfl) ?_
        refine S.of1 (pc2 := 84) (fun Q => g_iload d_T_judge_82 rfl) ?_
        refine S.call_rI (pc3 := 87) rfl (c_Sh_small (d - 1) (by omega) q2 hq2 v5 σ) (fun Q => g_callV (M2 := m_Sh_small) (vs := [.int v5]) (st := [.ref 1, .ref 11]) lv_RX10_149 hq2 rfl rfl (Nat.le_of_ble_eq_true rfl) (by omega) (Nat.le_of_ble_eq_true rfl) rfl d_T_judge_84) (fun q11 => ?_)
        refine S.of1 (pc2 := 88) (fun Q => g_aload_n d_T_judge_87 rfl) ?_
        refine S.of1 (pc2 := 90) (fun Q => g_iload d_T_judge_88 rfl) ?_
        refine S.call_rI (pc3 := 93) rfl (c_T_dayBehind (d - 1) (by omega) v5 σ) (fun Q => g_callV (M2 := m_T_dayBehind) (vs := [.int v5]) (st := [.int q11, .ref 1, .ref 11]) lv_RX10_217 gk_0 rfl rfl (Nat.le_of_ble_eq_true rfl) (by omega) (Nat.le_of_ble_eq_true rfl) rfl d_T_judge_90) (fun q12 => ?_)
        refine S.call_wV (pc3 := 96) rfl (c_Cr_gather (d - 1) (by omega) 11 gk_11 q11 q12 σ) (fun Q => g_callV (M2 := m_Cr_gather) (vs := [.ref 1, .int q11, .int q12]) (st := []) lv_RX10_220 gk_11 rfl rfl (Nat.le_of_ble_eq_true rfl) (by omega) (Nat.le_of_ble_eq_true rfl) rfl d_T_judge_93) (fun s13 => ?_)
        refine S.of1 (pc2 := 97) (fun Q => g_aload_n d_T_judge_96 rfl) ?_
        refine S.of1 (pc2 := 100) (fun Q => g_getr fl_RX10_19 gc_0_1 d_T_judge_97) ?_
        refine S.of1 (pc2 := 102) (fun Q => g_bipush (v := (10 : Int32)) d_T_judge_100 (by decide)) ?_
        refine S.call_wI (pc3 := 105) rfl (c_Cr_happened (d - 1) (by omega) 11 gk_11 (10 : Int32) s13) (fun Q => g_callV (M2 := m_Cr_happened) (vs := [.int (10 : Int32)]) (st := []) lv_RX10_136 gk_11 rfl rfl (Nat.le_of_ble_eq_true rfl) (by omega) (Nat.le_of_ble_eq_true rfl) rfl d_T_judge_102) (fun q14 => ?_)
        refine S.of1 (pc2 := 106) (fun Q => g_aload_n d_T_judge_105 rfl) ?_
        refine S.of1 (pc2 := 108) (fun Q => g_iload d_T_judge_106 rfl) ?_
        refine S.call_rI (pc3 := 111) rfl (c_Sh_small (d - 1) (by omega) q3 hq3 v5 q14.2) (fun Q => g_callV (M2 := m_Sh_small) (vs := [.int v5]) (st := [.int q14.1]) lv_RX10_149 hq3 rfl rfl (Nat.le_of_ble_eq_true rfl) (by omega) (Nat.le_of_ble_eq_true rfl) rfl d_T_judge_108) (fun q15 => ?_)
        refine S.br (c := q14.1 = q15) (t := 117) (e := 114) (fun Q kt kf => g_icmp_eq d_T_judge_111 rfl kt kf) (fun h16 => ?_) (fun h16 => ?_)
        · refine S.of1 (pc2 := 120) (L2 := [some (.ref 0), none, some (.ref q2), some (.ref q3), some (.int v4), some (.int (v5 + (1 : Int32)))]) (fun Q => g_iinc d_T_judge_117 rfl (congrArg (fun z => v5 + z) (by decide)) (Nat.le_of_ble_eq_true rfl) rfl) ?_
          refine S.of1 (pc2 := 54) (fun Q => g_goto d_T_judge_120 rfl) ?_
          exact S.wk (L2 := [some (.ref 0), none, some (.ref q2), some (.ref q3), some (.int v4), some (.int (v5 + (1 : Int32)))]) (And.intro rfl (And.intro rfl (And.intro rfl (And.intro rfl (And.intro rfl trivial))))) (ih q2 hq2 q3 hq3 v4 (v5 + (1 : Int32)) q14.2)
        · refine S.of1 (pc2 := 116) (fun Q => g_iload d_T_judge_114 rfl) ?_
          exact S.ret (fun Q hq => g_iret rfl d_T_judge_116 hq)
      · refine S.of1 (pc2 := 72) (fun Q => g_iload d_T_judge_70 rfl) ?_
        exact S.ret (fun Q hq => g_iret rfl d_T_judge_72 hq)
def f_T_judge (v1 : Int32) (σ : gS) : Option (Int32 × gS) :=
  (f_T_areTwo v1 (6 : Int32)).bind fun q1 => if q1 = 0 then some ((-1 : Int32), σ) else (f_T_areOfBytes v1 σ).bind fun q3 => if q3 = 0 then (f_T_refusalOfTwo v1 σ).bind fun q5 => some (q5, σ) else if gix (v1 / (10 : Int32)) 6 then if gix (grem v1 (10 : Int32)) 6 then (f_T_daysOn (gshc (v1 / (10 : Int32))) σ).bind fun q8 => f_T_judge_L54 gfu (gshc (v1 / (10 : Int32))) (gshc (grem v1 (10 : Int32))) q8 (0 : Int32) σ else none else none
theorem c_T_judge (d : Nat) (hd : 5 ≤ d) (v1 : Int32) (σ : gS) : C wI d m_T_judge [.ref 0, .int v1] σ (f_T_judge v1 σ) := by
  unfold f_T_judge
  refine C.of (by decide +kernel) (Nat.le_of_ble_eq_true rfl) (L := [some (.ref 0), some (.int v1), none, none, none, none]) rfl ?_
  refine S.of1 (pc2 := 1) (fun Q => g_iload_n d_T_judge_0 rfl) ?_
  refine S.of1 (pc2 := 3) (fun Q => g_bipush (v := (6 : Int32)) d_T_judge_1 (by decide)) ?_
  refine S.call_rI (pc3 := 6) rfl (c_T_areTwo (d - 1) (by omega) v1 (6 : Int32) σ) (fun Q => g_callS (M2 := m_T_areTwo) (vs := [.int v1, .int (6 : Int32)]) (st := []) ls_RX10_174 rfl (Nat.le_of_ble_eq_true rfl) (by omega) (Nat.le_of_ble_eq_true rfl) rfl d_T_judge_3) (fun q1 => ?_)
  refine S.br (c := q1 = 0) (t := 9) (e := 11) (fun Q kt kf => g_if_ne d_T_judge_6 rfl kf kt) (fun h2 => ?_) (fun h2 => ?_)
  · refine S.of1 (pc2 := 10) (fun Q => g_iconst (v := (-1 : Int32)) d_T_judge_9 (by decide)) ?_
    exact S.ret (fun Q hq => g_iret rfl d_T_judge_10 hq)
  · refine S.of1 (pc2 := 12) (fun Q => g_aload_n d_T_judge_11 rfl) ?_
    refine S.of1 (pc2 := 13) (fun Q => g_iload_n d_T_judge_12 rfl) ?_
    refine S.call_rI (pc3 := 16) rfl (c_T_areOfBytes (d - 1) (by omega) v1 σ) (fun Q => g_callV (M2 := m_T_areOfBytes) (vs := [.int v1]) (st := []) lv_RX10_229 gk_0 rfl rfl (Nat.le_of_ble_eq_true rfl) (by omega) (Nat.le_of_ble_eq_true rfl) rfl d_T_judge_13) (fun q3 => ?_)
    refine S.br (c := q3 = 0) (t := 19) (e := 25) (fun Q kt kf => g_if_ne d_T_judge_16 rfl kf kt) (fun h4 => ?_) (fun h4 => ?_)
    · refine S.of1 (pc2 := 20) (fun Q => g_aload_n d_T_judge_19 rfl) ?_
      refine S.of1 (pc2 := 21) (fun Q => g_iload_n d_T_judge_20 rfl) ?_
      refine S.call_rI (pc3 := 24) rfl (c_T_refusalOfTwo (d - 1) (by omega) v1 σ) (fun Q => g_callV (M2 := m_T_refusalOfTwo) (vs := [.int v1]) (st := []) lv_RX10_232 gk_0 rfl rfl (Nat.le_of_ble_eq_true rfl) (by omega) (Nat.le_of_ble_eq_true rfl) rfl d_T_judge_21) (fun q5 => ?_)
      exact S.ret (fun Q hq => g_iret rfl d_T_judge_24 hq)
    · refine S.of1 (pc2 := 26) (fun Q => g_aload_n d_T_judge_25 rfl) ?_
      refine S.of1 (pc2 := 29) (fun Q => g_getr fl_RX10_67 gc_0_8 d_T_judge_26) ?_
      refine S.of1 (pc2 := 30) (fun Q => g_iload_n d_T_judge_29 rfl) ?_
      refine S.of1 (pc2 := 32) (fun Q => g_bipush (v := (10 : Int32)) d_T_judge_30 (by decide)) ?_
      refine S.of1 (pc2 := 33) (fun Q => g_idiv d_T_judge_32 (by decide)) ?_
      refine S.chk (fun h6 => ?_)
      refine S.of1 (pc2 := 34) (fun Q => g_aald gra_46 (gix_in h6) (gsh_get h6) d_T_judge_33) ?_
      refine S.of1 (pc2 := 35) (L2 := [some (.ref 0), some (.int v1), some (.ref (gshc (v1 / (10 : Int32)))), none, none, none]) (fun Q => g_astore_n d_T_judge_34 (Nat.le_of_ble_eq_true rfl) rfl) ?_
      refine S.of1 (pc2 := 36) (fun Q => g_aload_n d_T_judge_35 rfl) ?_
      refine S.of1 (pc2 := 39) (fun Q => g_getr fl_RX10_67 gc_0_8 d_T_judge_36) ?_
      refine S.of1 (pc2 := 40) (fun Q => g_iload_n d_T_judge_39 rfl) ?_
      refine S.of1 (pc2 := 42) (fun Q => g_bipush (v := (10 : Int32)) d_T_judge_40 (by decide)) ?_
      refine S.of1 (pc2 := 43) (fun Q => g_irem d_T_judge_42 (by decide)) ?_
      refine S.chk (fun h7 => ?_)
      refine S.of1 (pc2 := 44) (fun Q => g_aald gra_46 (gix_in h7) (gsh_get h7) d_T_judge_43) ?_
      refine S.of1 (pc2 := 45) (L2 := [some (.ref 0), some (.int v1), some (.ref (gshc (v1 / (10 : Int32)))), some (.ref (gshc (grem v1 (10 : Int32)))), none, none]) (fun Q => g_astore_n d_T_judge_44 (Nat.le_of_ble_eq_true rfl) rfl) ?_
      refine S.of1 (pc2 := 46) (fun Q => g_aload_n d_T_judge_45 rfl) ?_
      refine S.call_rI (pc3 := 49) rfl (c_T_daysOn (d - 1) (by omega) (gshc (v1 / (10 : Int32))) (gsh_cls h6) σ) (fun Q => g_callS (M2 := m_T_daysOn) (vs := [.ref (gshc (v1 / (10 : Int32)))]) (st := []) ls_RX10_213 rfl (Nat.le_of_ble_eq_true rfl) (by omega) (Nat.le_of_ble_eq_true rfl) rfl d_T_judge_46) (fun q8 => ?_)
      refine S.of1 (pc2 := 51) (L2 := [some (.ref 0), some (.int v1), some (.ref (gshc (v1 / (10 : Int32)))), some (.ref (gshc (grem v1 (10 : Int32)))), some (.int q8), none]) (fun Q => g_istore d_T_judge_49 (Nat.le_of_ble_eq_true rfl) rfl) ?_
      refine S.of1 (pc2 := 52) (fun Q => g_iconst (v := (0 : Int32)) d_T_judge_51 (by decide)) ?_
      refine S.of1 (pc2 := 54) (L2 := [some (.ref 0), some (.int v1), some (.ref (gshc (v1 / (10 : Int32)))), some (.ref (gshc (grem v1 (10 : Int32)))), some (.int q8), some (.int (0 : Int32))]) (fun Q => g_istore d_T_judge_52 (Nat.le_of_ble_eq_true rfl) rfl) ?_
      exact S.wk (L2 := [some (.ref 0), none, some (.ref (gshc (v1 / (10 : Int32)))), some (.ref (gshc (grem v1 (10 : Int32)))), some (.int q8), some (.int (0 : Int32))]) (And.intro rfl (And.intro rfl (And.intro rfl (And.intro rfl (And.intro rfl trivial))))) (s_T_judge_L54 d hd gfu (gshc (v1 / (10 : Int32))) (gsh_cls h6) (gshc (grem v1 (10 : Int32))) (gsh_cls h7) q8 (0 : Int32) σ)
def f_T_fitting_j131 (r1 : Nat) (r2 : Nat) (k31 : Int32 → Int32 → Int32 → Int32 → Int32 → Int32 → gS → Option (Int32 × gS)) (k84 : Int32 → Int32 → Int32 → Int32 → Int32 → Int32 → Int32 → Int32 → gS → Option (Int32 × gS)) (v3 : Int32) (v4 : Int32) (v5 : Int32) (v6 : Int32) (v7 : Int32) (v8 : Int32) (v9 : Int32) (v10 : Int32) (v11 : Int32) (s0 : Int32) (σ : gS) : Option (Int32 × gS) :=
  if gix v3 10 then gup (gpi σ 13 v3.toNatClampNeg v11) fun s15 => (f_Sh_small r1 v8 s15).bind fun q16 => (f_Isl_speechAs v3 v11 s0 q16 v9 s15).bind fun q17 => if gix v3 10 then gup (gpi q17.2 12 v3.toNatClampNeg q17.1) fun s19 => (f_Cr_happened 11 (10 : Int32) s19).bind fun q20 => (f_Sh_small r2 v8 q20.2).bind fun q21 => if q20.1 = q21 then k84 v3 v4 v5 v6 v7 v8 v9 (v10 + (1 : Int32)) q20.2 else glt (v6 &&& (((1 : Int32) <<< (v10 &&& 31)) ^^^ (-1 : Int32))) fun x23 => k84 v3 v4 v5 x23 v7 v8 v9 (v10 + (1 : Int32)) q20.2 else none else none
theorem s_T_fitting_j131 (d : Nat) (hd : 5 ≤ d) (r1 : Nat) (hr1 : gcls r1 = some 8) (r2 : Nat) (hr2 : gcls r2 = some 8) (k31 : Int32 → Int32 → Int32 → Int32 → Int32 → Int32 → gS → Option (Int32 × gS)) (hk31 : ∀ (v3 : Int32) (v4 : Int32) (v5 : Int32) (v6 : Int32) (v7 : Int32) (v8 : Int32) (τ : gS), S wI m_T_fitting d 31 [some (.ref 0), some (.ref r1), some (.ref r2), some (.int v3), some (.int v4), some (.int v5), some (.int v6), some (.int v7), some (.int v8), none, none, none, none] [] τ (k31 v3 v4 v5 v6 v7 v8 τ)) (k84 : Int32 → Int32 → Int32 → Int32 → Int32 → Int32 → Int32 → Int32 → gS → Option (Int32 × gS)) (hk84 : ∀ (v3 : Int32) (v4 : Int32) (v5 : Int32) (v6 : Int32) (v7 : Int32) (v8 : Int32) (v9 : Int32) (v10 : Int32) (τ : gS), S wI m_T_fitting d 84 [some (.ref 0), some (.ref r1), some (.ref r2), some (.int v3), some (.int v4), some (.int v5), some (.int v6), some (.int v7), some (.int v8), some (.int v9), some (.int v10), none, none] [] τ (k84 v3 v4 v5 v6 v7 v8 v9 v10 τ)) (v3 : Int32) (v4 : Int32) (v5 : Int32) (v6 : Int32) (v7 : Int32) (v8 : Int32) (v9 : Int32) (v10 : Int32) (v11 : Int32) (s0 : Int32) (σ : gS) : S wI m_T_fitting d 131 [some (.ref 0), some (.ref r1), some (.ref r2), some (.int v3), some (.int v4), some (.int v5), some (.int v6), some (.int v7), some (.int v8), some (.int v9), some (.int v10), some (.int v11), none] [.int s0] σ (f_T_fitting_j131 r1 r2 k31 k84 v3 v4 v5 v6 v7 v8 v9 v10 v11 s0 σ) := by
  unfold f_T_fitting_j131
  refine S.of1 (pc2 := 133) (L2 := [some (.ref 0), some (.ref r1), some (.ref r2), some (.int v3), some (.int v4), some (.int v5), some (.int v6), some (.int v7), some (.int v8), some (.int v9), some (.int v10), some (.int v11), some (.int s0)]) (fun Q => g_istore d_T_fitting_131 (Nat.le_of_ble_eq_true rfl) rfl) ?_
  refine S.of1 (pc2 := 134) (fun Q => g_aload_n d_T_fitting_133 rfl) ?_
  refine S.of1 (pc2 := 137) (fun Q => g_getr fl_RX10_19 gc_0_1 d_T_fitting_134) ?_
  refine S.of1 (pc2 := 140) (fun Q => g_getr fl_RX10_369 gc_11_1 d_T_fitting_137) ?_
  refine S.of1 (pc2 := 141) (fun Q => g_iload_n d_T_fitting_140 rfl) ?_
  refine S.of1 (pc2 := 143) (fun Q => g_iload d_T_fitting_141 rfl) ?_
  refine S.chk (fun h14 => ?_)
  refine S.of1 (pc2 := 144) (fun Q => g_iast ga_13 (gix_in h14) d_T_fitting_143) ?_
  refine S.gup (fun s15 => ?_)
  refine S.of1 (pc2 := 145) (fun Q => g_aload_n d_T_fitting_144 rfl) ?_
  refine S.of1 (pc2 := 148) (fun Q => g_getr fl_RX10_19 gc_0_1 d_T_fitting_145) ?_
  refine S.of1 (pc2 := 151) (fun Q => g_getr fl_RX10_370 gc_11_0 d_T_fitting_148) ?_
  refine S.of1 (pc2 := 152) (fun Q => g_iload_n d_T_fitting_151 rfl) ?_
  refine S.of1 (pc2 := 153) (fun Q => g_aload_n d_T_fitting_152 rfl) ?_
  refine S.of1 (pc2 := 156) (fun Q => g_getr fl_RX10_10 gc_0_0 d_T_fitting_153) ?_
  refine S.of1 (pc2 := 157) (fun Q => g_iload_n d_T_fitting_156 rfl) ?_
  refine S.of1 (pc2 := 159) (fun Q => g_iload d_T_fitting_157 rfl) ?_
  refine S.of1 (pc2 := 161) (fun Q => g_iload d_T_fitting_159 rfl) ?_
  refine S.of1 (pc2 := 162) (fun Q => g_aload_n d_T_fitting_161 rfl) ?_
  refine S.of1 (pc2 := 164) (fun Q => g_iload d_T_fitting_162 rfl) ?_
  refine S.call_rI (pc3 := 167) rfl (c_Sh_small (d - 1) (by omega) r1 hr1 v8 s15) (fun Q => g_callV (M2 := m_Sh_small) (vs := [.int v8]) (st := [.int s0, .int v11, .int v3, .ref 1, .int v3, .ref 12]) lv_RX10_149 hr1 rfl rfl (Nat.le_of_ble_eq_true rfl) (by omega) (Nat.le_of_ble_eq_true rfl) rfl d_T_fitting_164) (fun q16 => ?_)
  refine S.of1 (pc2 := 169) (fun Q => g_iload d_T_fitting_167 rfl) ?_
  refine S.call_wI (pc3 := 172) rfl (c_Isl_speechAs (d - 1) (by omega) v3 v11 s0 q16 v9 s15) (fun Q => g_callV (M2 := m_Isl_speechAs) (vs := [.int v3, .int v11, .int s0, .int q16, .int v9]) (st := [.int v3, .ref 12]) lv_RX10_373 gk_1 rfl rfl (Nat.le_of_ble_eq_true rfl) (by omega) (Nat.le_of_ble_eq_true rfl) rfl d_T_fitting_169) (fun q17 => ?_)
  refine S.chk (fun h18 => ?_)
  refine S.of1 (pc2 := 173) (fun Q => g_iast ga_12 (gix_in h18) d_T_fitting_172) ?_
  refine S.gup (fun s19 => ?_)
  refine S.of1 (pc2 := 174) (fun Q => g_aload_n d_T_fitting_173 rfl) ?_
  refine S.of1 (pc2 := 177) (fun Q => g_getr fl_RX10_19 gc_0_1 d_T_fitting_174) ?_
  refine S.of1 (pc2 := 179) (fun Q => g_bipush (v := (10 : Int32)) d_T_fitting_177 (by decide)) ?_
  refine S.call_wI (pc3 := 182) rfl (c_Cr_happened (d - 1) (by omega) 11 gk_11 (10 : Int32) s19) (fun Q => g_callV (M2 := m_Cr_happened) (vs := [.int (10 : Int32)]) (st := []) lv_RX10_136 gk_11 rfl rfl (Nat.le_of_ble_eq_true rfl) (by omega) (Nat.le_of_ble_eq_true rfl) rfl d_T_fitting_179) (fun q20 => ?_)
  refine S.of1 (pc2 := 183) (fun Q => g_aload_n d_T_fitting_182 rfl) ?_
  refine S.of1 (pc2 := 185) (fun Q => g_iload d_T_fitting_183 rfl) ?_
  refine S.call_rI (pc3 := 188) rfl (c_Sh_small (d - 1) (by omega) r2 hr2 v8 q20.2) (fun Q => g_callV (M2 := m_Sh_small) (vs := [.int v8]) (st := [.int q20.1]) lv_RX10_149 hr2 rfl rfl (Nat.le_of_ble_eq_true rfl) (by omega) (Nat.le_of_ble_eq_true rfl) rfl d_T_fitting_185) (fun q21 => ?_)
  refine S.br (c := q20.1 = q21) (t := 202) (e := 191) (fun Q kt kf => g_icmp_eq d_T_fitting_188 rfl kt kf) (fun h22 => ?_) (fun h22 => ?_)
  · refine S.of1 (pc2 := 205) (L2 := [some (.ref 0), some (.ref r1), some (.ref r2), some (.int v3), some (.int v4), some (.int v5), some (.int v6), some (.int v7), some (.int v8), some (.int v9), some (.int (v10 + (1 : Int32))), some (.int v11), some (.int s0)]) (fun Q => g_iinc d_T_fitting_202 rfl (congrArg (fun z => v10 + z) (by decide)) (Nat.le_of_ble_eq_true rfl) rfl) ?_
    refine S.of1 (pc2 := 84) (fun Q => g_goto d_T_fitting_205 rfl) ?_
    exact S.wk (L2 := [some (.ref 0), some (.ref r1), some (.ref r2), some (.int v3), some (.int v4), some (.int v5), some (.int v6), some (.int v7), some (.int v8), some (.int v9), some (.int (v10 + (1 : Int32))), none, none]) (And.intro rfl (And.intro rfl (And.intro rfl (And.intro rfl (And.intro rfl (And.intro rfl (And.intro rfl (And.intro rfl (And.intro rfl (And.intro rfl (And.intro rfl trivial))))))))))) (hk84 v3 v4 v5 v6 v7 v8 v9 (v10 + (1 : Int32)) q20.2)
  · refine S.of1 (pc2 := 193) (fun Q => g_iload d_T_fitting_191 rfl) ?_
    refine S.of1 (pc2 := 194) (fun Q => g_iconst (v := (1 : Int32)) d_T_fitting_193 (by decide)) ?_
    refine S.of1 (pc2 := 196) (fun Q => g_iload d_T_fitting_194 rfl) ?_
    refine S.of1 (pc2 := 197) (fun Q => g_ishl d_T_fitting_196) ?_
    refine S.of1 (pc2 := 198) (fun Q => g_iconst (v := (-1 : Int32)) d_T_fitting_197 (by decide)) ?_
    refine S.of1 (pc2 := 199) (fun Q => g_ixor d_T_fitting_198) ?_
    refine S.of1 (pc2 := 200) (fun Q => g_iand d_T_fitting_199) ?_
    refine S.of1 (pc2 := 202) (L2 := [some (.ref 0), some (.ref r1), some (.ref r2), some (.int v3), some (.int v4), some (.int v5), some (.int (v6 &&& (((1 : Int32) <<< (v10 &&& 31)) ^^^ (-1 : Int32)))), some (.int v7), some (.int v8), some (.int v9), some (.int v10), some (.int v11), some (.int s0)]) (fun Q => g_istore d_T_fitting_200 (Nat.le_of_ble_eq_true rfl) rfl) ?_
    refine S.glt (x := (v6 &&& (((1 : Int32) <<< (v10 &&& 31)) ^^^ (-1 : Int32)))) (Lf := fun y => [some (.ref 0), some (.ref r1), some (.ref r2), some (.int v3), some (.int v4), some (.int v5), some (.int y), some (.int v7), some (.int v8), some (.int v9), some (.int v10), some (.int v11), some (.int s0)]) (fun x23 => ?_)
    refine S.of1 (pc2 := 205) (L2 := [some (.ref 0), some (.ref r1), some (.ref r2), some (.int v3), some (.int v4), some (.int v5), some (.int x23), some (.int v7), some (.int v8), some (.int v9), some (.int (v10 + (1 : Int32))), some (.int v11), some (.int s0)]) (fun Q => g_iinc d_T_fitting_202 rfl (congrArg (fun z => v10 + z) (by decide)) (Nat.le_of_ble_eq_true rfl) rfl) ?_
    refine S.of1 (pc2 := 84) (fun Q => g_goto d_T_fitting_205 rfl) ?_
    exact S.wk (L2 := [some (.ref 0), some (.ref r1), some (.ref r2), some (.int v3), some (.int v4), some (.int v5), some (.int x23), some (.int v7), some (.int v8), some (.int v9), some (.int (v10 + (1 : Int32))), none, none]) (And.intro rfl (And.intro rfl (And.intro rfl (And.intro rfl (And.intro rfl (And.intro rfl (And.intro rfl (And.intro rfl (And.intro rfl (And.intro rfl (And.intro rfl trivial))))))))))) (hk84 v3 v4 v5 x23 v7 v8 v9 (v10 + (1 : Int32)) q20.2)
def f_T_fitting_j110 (r1 : Nat) (r2 : Nat) (k31 : Int32 → Int32 → Int32 → Int32 → Int32 → Int32 → gS → Option (Int32 × gS)) (k84 : Int32 → Int32 → Int32 → Int32 → Int32 → Int32 → Int32 → Int32 → gS → Option (Int32 × gS)) (v3 : Int32) (v4 : Int32) (v5 : Int32) (v6 : Int32) (v7 : Int32) (v8 : Int32) (v9 : Int32) (v10 : Int32) (s0 : Int32) (σ : gS) : Option (Int32 × gS) :=
  if v4 = 0 then f_T_fitting_j131 r1 r2 k31 k84 v3 v4 v5 v6 v7 v8 v9 v10 s0 v10 σ else if gix v3 10 then f_T_fitting_j131 r1 r2 k31 k84 v3 v4 v5 v6 v7 v8 v9 v10 s0 (σ.1 3 v3.toNatClampNeg) σ else none
theorem s_T_fitting_j110 (d : Nat) (hd : 5 ≤ d) (r1 : Nat) (hr1 : gcls r1 = some 8) (r2 : Nat) (hr2 : gcls r2 = some 8) (k31 : Int32 → Int32 → Int32 → Int32 → Int32 → Int32 → gS → Option (Int32 × gS)) (hk31 : ∀ (v3 : Int32) (v4 : Int32) (v5 : Int32) (v6 : Int32) (v7 : Int32) (v8 : Int32) (τ : gS), S wI m_T_fitting d 31 [some (.ref 0), some (.ref r1), some (.ref r2), some (.int v3), some (.int v4), some (.int v5), some (.int v6), some (.int v7), some (.int v8), none, none, none, none] [] τ (k31 v3 v4 v5 v6 v7 v8 τ)) (k84 : Int32 → Int32 → Int32 → Int32 → Int32 → Int32 → Int32 → Int32 → gS → Option (Int32 × gS)) (hk84 : ∀ (v3 : Int32) (v4 : Int32) (v5 : Int32) (v6 : Int32) (v7 : Int32) (v8 : Int32) (v9 : Int32) (v10 : Int32) (τ : gS), S wI m_T_fitting d 84 [some (.ref 0), some (.ref r1), some (.ref r2), some (.int v3), some (.int v4), some (.int v5), some (.int v6), some (.int v7), some (.int v8), some (.int v9), some (.int v10), none, none] [] τ (k84 v3 v4 v5 v6 v7 v8 v9 v10 τ)) (v3 : Int32) (v4 : Int32) (v5 : Int32) (v6 : Int32) (v7 : Int32) (v8 : Int32) (v9 : Int32) (v10 : Int32) (s0 : Int32) (σ : gS) : S wI m_T_fitting d 110 [some (.ref 0), some (.ref r1), some (.ref r2), some (.int v3), some (.int v4), some (.int v5), some (.int v6), some (.int v7), some (.int v8), some (.int v9), some (.int v10), none, none] [.int s0] σ (f_T_fitting_j110 r1 r2 k31 k84 v3 v4 v5 v6 v7 v8 v9 v10 s0 σ) := by
  unfold f_T_fitting_j110
  refine S.of1 (pc2 := 112) (L2 := [some (.ref 0), some (.ref r1), some (.ref r2), some (.int v3), some (.int v4), some (.int v5), some (.int v6), some (.int v7), some (.int v8), some (.int v9), some (.int v10), some (.int s0), none]) (fun Q => g_istore d_T_fitting_110 (Nat.le_of_ble_eq_true rfl) rfl) ?_
  refine S.of1 (pc2 := 114) (fun Q => g_iload d_T_fitting_112 rfl) ?_
  refine S.br (c := v4 = 0) (t := 129) (e := 117) (fun Q kt kf => g_if_eq d_T_fitting_114 rfl kt kf) (fun h13 => ?_) (fun h13 => ?_)
  · refine S.of1 (pc2 := 131) (fun Q => g_iload d_T_fitting_129 rfl) ?_
    exact S.wk (L2 := [some (.ref 0), some (.ref r1), some (.ref r2), some (.int v3), some (.int v4), some (.int v5), some (.int v6), some (.int v7), some (.int v8), some (.int v9), some (.int v10), some (.int s0), none]) (And.intro rfl (And.intro rfl (And.intro rfl (And.intro rfl (And.intro rfl (And.intro rfl (And.intro rfl (And.intro rfl (And.intro rfl (And.intro rfl (And.intro rfl (And.intro rfl trivial)))))))))))) (s_T_fitting_j131 d hd r1 hr1 r2 hr2 k31 hk31 k84 hk84 v3 v4 v5 v6 v7 v8 v9 v10 s0 v10 σ)
  · refine S.of1 (pc2 := 118) (fun Q => g_aload_n d_T_fitting_117 rfl) ?_
    refine S.of1 (pc2 := 121) (fun Q => g_getr fl_RX10_10 gc_0_0 d_T_fitting_118) ?_
    refine S.of1 (pc2 := 124) (fun Q => g_getr fl_RX10_363 gc_1_1 d_T_fitting_121) ?_
    refine S.of1 (pc2 := 125) (fun Q => g_iload_n d_T_fitting_124 rfl) ?_
    refine S.chk (fun h24 => ?_)
    refine S.of1 (pc2 := 126) (fun Q => g_iald ga_3 (gix_in h24) d_T_fitting_125) ?_
    refine S.of1 (pc2 := 131) (fun Q => g_goto d_T_fitting_126 rfl) ?_
    exact S.wk (L2 := [some (.ref 0), some (.ref r1), some (.ref r2), some (.int v3), some (.int v4), some (.int v5), some (.int v6), some (.int v7), some (.int v8), some (.int v9), some (.int v10), some (.int s0), none]) (And.intro rfl (And.intro rfl (And.intro rfl (And.intro rfl (And.intro rfl (And.intro rfl (And.intro rfl (And.intro rfl (And.intro rfl (And.intro rfl (And.intro rfl (And.intro rfl trivial)))))))))))) (s_T_fitting_j131 d hd r1 hr1 r2 hr2 k31 hk31 k84 hk84 v3 v4 v5 v6 v7 v8 v9 v10 s0 (σ.1 3 v3.toNatClampNeg) σ)
def f_T_fitting_L84 (r1 : Nat) (r2 : Nat) (k31 : Int32 → Int32 → Int32 → Int32 → Int32 → Int32 → gS → Option (Int32 × gS)) : Nat → Int32 → Int32 → Int32 → Int32 → Int32 → Int32 → Int32 → Int32 → gS → Option (Int32 × gS)
  | 0, _, _, _, _, _, _, _, _, _ => none
  | n + 1, v3, v4, v5, v6, v7, v8, v9, v10, σ =>
  if v5 ≤ v10 then k31 v3 v4 v5 v6 v7 (v8 + (1 : Int32)) σ else if v4 = 0 then if gix v3 10 then f_T_fitting_j110 r1 r2 k31 (fun v3 v4 v5 v6 v7 v8 v9 v10 σ => f_T_fitting_L84 r1 r2 k31 n v3 v4 v5 v6 v7 v8 v9 v10 σ) v3 v4 v5 v6 v7 v8 v9 v10 (σ.1 2 v3.toNatClampNeg) σ else none else f_T_fitting_j110 r1 r2 k31 (fun v3 v4 v5 v6 v7 v8 v9 v10 σ => f_T_fitting_L84 r1 r2 k31 n v3 v4 v5 v6 v7 v8 v9 v10 σ) v3 v4 v5 v6 v7 v8 v9 v10 v10 σ
theorem s_T_fitting_L84 (d : Nat) (hd : 5 ≤ d) (r1 : Nat) (hr1 : gcls r1 = some 8) (r2 : Nat) (hr2 : gcls r2 = some 8) (k31 : Int32 → Int32 → Int32 → Int32 → Int32 → Int32 → gS → Option (Int32 × gS)) (hk31 : ∀ (v3 : Int32) (v4 : Int32) (v5 : Int32) (v6 : Int32) (v7 : Int32) (v8 : Int32) (τ : gS), S wI m_T_fitting d 31 [some (.ref 0), some (.ref r1), some (.ref r2), some (.int v3), some (.int v4), some (.int v5), some (.int v6), some (.int v7), some (.int v8), none, none, none, none] [] τ (k31 v3 v4 v5 v6 v7 v8 τ)) : ∀ (n : Nat) (v3 : Int32) (v4 : Int32) (v5 : Int32) (v6 : Int32) (v7 : Int32) (v8 : Int32) (v9 : Int32) (v10 : Int32) (σ : gS), S wI m_T_fitting d 84 [some (.ref 0), some (.ref r1), some (.ref r2), some (.int v3), some (.int v4), some (.int v5), some (.int v6), some (.int v7), some (.int v8), some (.int v9), some (.int v10), none, none] [] σ (f_T_fitting_L84 r1 r2 k31 n v3 v4 v5 v6 v7 v8 v9 v10 σ) := by
  intro n
  induction n with
  | zero =>
    intros
    unfold f_T_fitting_L84
    exact S.no
  | succ n ih =>
    intro v3 v4 v5 v6 v7 v8 v9 v10 σ
    unfold f_T_fitting_L84
    refine S.of1 (pc2 := 86) (fun Q => g_iload d_T_fitting_84 rfl) ?_
    refine S.of1 (pc2 := 88) (fun Q => g_iload d_T_fitting_86 rfl) ?_
    refine S.br (c := v5 ≤ v10) (t := 208) (e := 91) (fun Q kt kf => g_icmp_ge d_T_fitting_88 rfl kt kf) (fun h10 => ?_) (fun h10 => ?_)
    · refine S.of1 (pc2 := 211) (L2 := [some (.ref 0), some (.ref r1), some (.ref r2), some (.int v3), some (.int v4), some (.int v5), some (.int v6), some (.int v7), some (.int (v8 + (1 : Int32))), some (.int v9), some (.int v10), none, none]) (fun Q => g_iinc d_T_fitting_208 rfl (congrArg (fun z => v8 + z) (by decide)) (Nat.le_of_ble_eq_true rfl) rfl) ?_
      refine S.of1 (pc2 := 31) (fun Q => g_goto d_T_fitting_211 rfl) ?_
      exact S.wk (L2 := [some (.ref 0), some (.ref r1), some (.ref r2), some (.int v3), some (.int v4), some (.int v5), some (.int v6), some (.int v7), some (.int (v8 + (1 : Int32))), none, none, none, none]) (And.intro rfl (And.intro rfl (And.intro rfl (And.intro rfl (And.intro rfl (And.intro rfl (And.intro rfl (And.intro rfl (And.intro rfl trivial))))))))) (hk31 v3 v4 v5 v6 v7 (v8 + (1 : Int32)) σ)
    · refine S.of1 (pc2 := 93) (fun Q => g_iload d_T_fitting_91 rfl) ?_
      refine S.br (c := v4 = 0) (t := 101) (e := 96) (fun Q kt kf => g_if_eq d_T_fitting_93 rfl kt kf) (fun h11 => ?_) (fun h11 => ?_)
      · refine S.of1 (pc2 := 102) (fun Q => g_aload_n d_T_fitting_101 rfl) ?_
        refine S.of1 (pc2 := 105) (fun Q => g_getr fl_RX10_10 gc_0_0 d_T_fitting_102) ?_
        refine S.of1 (pc2 := 108) (fun Q => g_getr fl_RX10_366 gc_1_0 d_T_fitting_105) ?_
        refine S.of1 (pc2 := 109) (fun Q => g_iload_n d_T_fitting_108 rfl) ?_
        refine S.chk (fun h12 => ?_)
        refine S.of1 (pc2 := 110) (fun Q => g_iald ga_2 (gix_in h12) d_T_fitting_109) ?_
        exact S.wk (L2 := [some (.ref 0), some (.ref r1), some (.ref r2), some (.int v3), some (.int v4), some (.int v5), some (.int v6), some (.int v7), some (.int v8), some (.int v9), some (.int v10), none, none]) (And.intro rfl (And.intro rfl (And.intro rfl (And.intro rfl (And.intro rfl (And.intro rfl (And.intro rfl (And.intro rfl (And.intro rfl (And.intro rfl (And.intro rfl trivial))))))))))) (s_T_fitting_j110 d hd r1 hr1 r2 hr2 k31 hk31 (fun v3 v4 v5 v6 v7 v8 v9 v10 σ => f_T_fitting_L84 r1 r2 k31 n v3 v4 v5 v6 v7 v8 v9 v10 σ) (fun v3 v4 v5 v6 v7 v8 v9 v10 τ => ih v3 v4 v5 v6 v7 v8 v9 v10 τ) v3 v4 v5 v6 v7 v8 v9 v10 (σ.1 2 v3.toNatClampNeg) σ)
      · refine S.of1 (pc2 := 98) (fun Q => g_iload d_T_fitting_96 rfl) ?_
        refine S.of1 (pc2 := 110) (fun Q => g_goto d_T_fitting_98 rfl) ?_
        exact S.wk (L2 := [some (.ref 0), some (.ref r1), some (.ref r2), some (.int v3), some (.int v4), some (.int v5), some (.int v6), some (.int v7), some (.int v8), some (.int v9), some (.int v10), none, none]) (And.intro rfl (And.intro rfl (And.intro rfl (And.intro rfl (And.intro rfl (And.intro rfl (And.intro rfl (And.intro rfl (And.intro rfl (And.intro rfl (And.intro rfl trivial))))))))))) (s_T_fitting_j110 d hd r1 hr1 r2 hr2 k31 hk31 (fun v3 v4 v5 v6 v7 v8 v9 v10 σ => f_T_fitting_L84 r1 r2 k31 n v3 v4 v5 v6 v7 v8 v9 v10 σ) (fun v3 v4 v5 v6 v7 v8 v9 v10 τ => ih v3 v4 v5 v6 v7 v8 v9 v10 τ) v3 v4 v5 v6 v7 v8 v9 v10 v10 σ)
def f_T_fitting_L31 (r1 : Nat) (r2 : Nat) : Nat → Int32 → Int32 → Int32 → Int32 → Int32 → Int32 → gS → Option (Int32 × gS)
  | 0, _, _, _, _, _, _, _ => none
  | n + 1, v3, v4, v5, v6, v7, v8, σ =>
  if (σ.1 r2 4) ≤ v8 then some (v6, σ) else if v6 = 0 then some (v6, σ) else if v8 < v7 then (f_T_dayBehind v8 σ).bind fun q7 => (f_Sh_small r1 v8 σ).bind fun q8 => (f_Cr_gather 11 q8 q7 σ).bind fun s9 => f_T_fitting_L84 r1 r2 (fun v3 v4 v5 v6 v7 v8 σ => f_T_fitting_L31 r1 r2 n v3 v4 v5 v6 v7 v8 σ) gfu v3 v4 v5 v6 v7 v8 q7 (0 : Int32) s9 else some ((0 : Int32), σ)
theorem s_T_fitting_L31 (d : Nat) (hd : 5 ≤ d) (r1 : Nat) (hr1 : gcls r1 = some 8) (r2 : Nat) (hr2 : gcls r2 = some 8) : ∀ (n : Nat) (v3 : Int32) (v4 : Int32) (v5 : Int32) (v6 : Int32) (v7 : Int32) (v8 : Int32) (σ : gS), S wI m_T_fitting d 31 [some (.ref 0), some (.ref r1), some (.ref r2), some (.int v3), some (.int v4), some (.int v5), some (.int v6), some (.int v7), some (.int v8), none, none, none, none] [] σ (f_T_fitting_L31 r1 r2 n v3 v4 v5 v6 v7 v8 σ) := by
  intro n
  induction n with
  | zero =>
    intros
    unfold f_T_fitting_L31
    exact S.no
  | succ n ih =>
    intro v3 v4 v5 v6 v7 v8 σ
    unfold f_T_fitting_L31
    refine S.of1 (pc2 := 33) (fun Q => g_iload d_T_fitting_31 rfl) ?_
    refine S.of1 (pc2 := 34) (fun Q => g_aload_n d_T_fitting_33 rfl) ?_
    refine S.of1 (pc2 := 37) (fun Q => g_geti fl_RX10_235 (gq_8_4 hr2) d_T_fitting_34) ?_
    refine S.br (c := (σ.1 r2 4) ≤ v8) (t := 214) (e := 40) (fun Q kt kf => g_icmp_ge d_T_fitting_37 rfl kt kf) (fun h4 => ?_) (fun h4 => ?_)
    · refine S.of1 (pc2 := 216) (fun Q => g_iload d_T_fitting_214 rfl) ?_
      exact S.ret (fun Q hq => g_iret rfl d_T_fitting_216 hq)
    · refine S.of1 (pc2 := 42) (fun Q => g_iload d_T_fitting_40 rfl) ?_
      refine S.br (c := v6 = 0) (t := 214) (e := 45) (fun Q kt kf => g_if_eq d_T_fitting_42 rfl kt kf) (fun h5 => ?_) (fun h5 => ?_)
      · refine S.of1 (pc2 := 216) (fun Q => g_iload d_T_fitting_214 rfl) ?_
        exact S.ret (fun Q hq => g_iret rfl d_T_fitting_216 hq)
      · refine S.of1 (pc2 := 47) (fun Q => g_iload d_T_fitting_45 rfl) ?_
        refine S.of1 (pc2 := 49) (fun Q => g_iload d_T_fitting_47 rfl) ?_
        refine S.br (c := v8 < v7) (t := 54) (e := 52) (fun Q kt kf => g_icmp_lt d_T_fitting_49 rfl kt kf) (fun h6 => ?_) (fun h6 => ?_)
        · refine S.of1 (pc2 := 55) (fun Q => g_aload_n d_T_fitting_54 rfl) ?_
          refine S.of1 (pc2 := 57) (fun Q => g_iload d_T_fitting_55 rfl) ?_
          refine S.call_rI (pc3 := 60) rfl (c_T_dayBehind (d - 1) (by omega) v8 σ) (fun Q => g_callV (M2 := m_T_dayBehind) (vs := [.int v8]) (st := []) lv_RX10_217 gk_0 rfl rfl (Nat.le_of_ble_eq_true rfl) (by omega) (Nat.le_of_ble_eq_true rfl) rfl d_T_fitting_57) (fun q7 => ?_)
          refine S.of1 (pc2 := 62) (L2 := [some (.ref 0), some (.ref r1), some (.ref r2), some (.int v3), some (.int v4), some (.int v5), some (.int v6), some (.int v7), some (.int v8), some (.int q7), none, none, none]) (fun Q => g_istore d_T_fitting_60 (Nat.le_of_ble_eq_true rfl) rfl) ?_
          refine S.of1 (pc2 := 63) (fun Q => g_aload_n d_T_fitting_62 rfl) ?_
          refine S.of1 (pc2 := 66) (fun Q => g_getr fl_RX10_19 gc_0_1 d_T_fitting_63) ?_
          refine S.of1 (pc2 := 67) (fun Q => g_aload_n d_T_fitting_66 rfl) ?_
          refine S.of1 (pc2 := 70) (fun Q => g_getr fl_RX10_10 gc_0_0 d_T_fitting_67) ?_
          refine S.of1 (pc2 := 71) (fun Q => g_aload_n d_T_fitting_70 rfl) ?_
          refine S.of1 (pc2 := 73) (fun Q => g_iload d_T_fitting_71 rfl) ?_
          refine S.call_rI (pc3 := 76) rfl (c_Sh_small (d - 1) (by omega) r1 hr1 v8 σ) (fun Q => g_callV (M2 := m_Sh_small) (vs := [.int v8]) (st := [.ref 1, .ref 11]) lv_RX10_149 hr1 rfl rfl (Nat.le_of_ble_eq_true rfl) (by omega) (Nat.le_of_ble_eq_true rfl) rfl d_T_fitting_73) (fun q8 => ?_)
          refine S.of1 (pc2 := 78) (fun Q => g_iload d_T_fitting_76 rfl) ?_
          refine S.call_wV (pc3 := 81) rfl (c_Cr_gather (d - 1) (by omega) 11 gk_11 q8 q7 σ) (fun Q => g_callV (M2 := m_Cr_gather) (vs := [.ref 1, .int q8, .int q7]) (st := []) lv_RX10_220 gk_11 rfl rfl (Nat.le_of_ble_eq_true rfl) (by omega) (Nat.le_of_ble_eq_true rfl) rfl d_T_fitting_78) (fun s9 => ?_)
          refine S.of1 (pc2 := 82) (fun Q => g_iconst (v := (0 : Int32)) d_T_fitting_81 (by decide)) ?_
          refine S.of1 (pc2 := 84) (L2 := [some (.ref 0), some (.ref r1), some (.ref r2), some (.int v3), some (.int v4), some (.int v5), some (.int v6), some (.int v7), some (.int v8), some (.int q7), some (.int (0 : Int32)), none, none]) (fun Q => g_istore d_T_fitting_82 (Nat.le_of_ble_eq_true rfl) rfl) ?_
          exact S.wk (L2 := [some (.ref 0), some (.ref r1), some (.ref r2), some (.int v3), some (.int v4), some (.int v5), some (.int v6), some (.int v7), some (.int v8), some (.int q7), some (.int (0 : Int32)), none, none]) (And.intro rfl (And.intro rfl (And.intro rfl (And.intro rfl (And.intro rfl (And.intro rfl (And.intro rfl (And.intro rfl (And.intro rfl (And.intro rfl (And.intro rfl trivial))))))))))) (s_T_fitting_L84 d hd r1 hr1 r2 hr2 (fun v3 v4 v5 v6 v7 v8 σ => f_T_fitting_L31 r1 r2 n v3 v4 v5 v6 v7 v8 σ) (fun v3 v4 v5 v6 v7 v8 τ => ih v3 v4 v5 v6 v7 v8 τ) gfu v3 v4 v5 v6 v7 v8 q7 (0 : Int32) s9)
        · refine S.of1 (pc2 := 53) (fun Q => g_iconst (v := (0 : Int32)) d_T_fitting_52 (by decide)) ?_
          exact S.ret (fun Q hq => g_iret rfl d_T_fitting_53 hq)
def f_T_fitting_j12 (r1 : Nat) (r2 : Nat) (v3 : Int32) (v4 : Int32) (s0 : Int32) (σ : gS) : Option (Int32 × gS) :=
  glt (((1 : Int32) <<< (s0 &&& 31)) - (1 : Int32)) fun x2 => (f_T_daysOn r1 σ).bind fun q3 => f_T_fitting_L31 r1 r2 gfu v3 v4 s0 x2 q3 (0 : Int32) σ
theorem s_T_fitting_j12 (d : Nat) (hd : 5 ≤ d) (r1 : Nat) (hr1 : gcls r1 = some 8) (r2 : Nat) (hr2 : gcls r2 = some 8) (v3 : Int32) (v4 : Int32) (s0 : Int32) (σ : gS) : S wI m_T_fitting d 12 [some (.ref 0), some (.ref r1), some (.ref r2), some (.int v3), some (.int v4), none, none, none, none, none, none, none, none] [.int s0] σ (f_T_fitting_j12 r1 r2 v3 v4 s0 σ) := by
  unfold f_T_fitting_j12
  refine S.of1 (pc2 := 14) (L2 := [some (.ref 0), some (.ref r1), some (.ref r2), some (.int v3), some (.int v4), some (.int s0), none, none, none, none, none, none, none]) (fun Q => g_istore d_T_fitting_12 (Nat.le_of_ble_eq_true rfl) rfl) ?_
  refine S.of1 (pc2 := 15) (fun Q => g_iconst (v := (1 : Int32)) d_T_fitting_14 (by decide)) ?_
  refine S.of1 (pc2 := 17) (fun Q => g_iload d_T_fitting_15 rfl) ?_
  refine S.of1 (pc2 := 18) (fun Q => g_ishl d_T_fitting_17) ?_
  refine S.of1 (pc2 := 19) (fun Q => g_iconst (v := (1 : Int32)) d_T_fitting_18 (by decide)) ?_
  refine S.of1 (pc2 := 20) (fun Q => g_isub d_T_fitting_19) ?_
  refine S.of1 (pc2 := 22) (L2 := [some (.ref 0), some (.ref r1), some (.ref r2), some (.int v3), some (.int v4), some (.int s0), some (.int (((1 : Int32) <<< (s0 &&& 31)) - (1 : Int32))), none, none, none, none, none, none]) (fun Q => g_istore d_T_fitting_20 (Nat.le_of_ble_eq_true rfl) rfl) ?_
  refine S.glt (x := (((1 : Int32) <<< (s0 &&& 31)) - (1 : Int32))) (Lf := fun y => [some (.ref 0), some (.ref r1), some (.ref r2), some (.int v3), some (.int v4), some (.int s0), some (.int y), none, none, none, none, none, none]) (fun x2 => ?_)
  refine S.of1 (pc2 := 23) (fun Q => g_aload_n d_T_fitting_22 rfl) ?_
  refine S.call_rI (pc3 := 26) rfl (c_T_daysOn (d - 1) (by omega) r1 hr1 σ) (fun Q => g_callS (M2 := m_T_daysOn) (vs := [.ref r1]) (st := []) ls_RX10_213 rfl (Nat.le_of_ble_eq_true rfl) (by omega) (Nat.le_of_ble_eq_true rfl) rfl d_T_fitting_23) (fun q3 => ?_)
  refine S.of1 (pc2 := 28) (L2 := [some (.ref 0), some (.ref r1), some (.ref r2), some (.int v3), some (.int v4), some (.int s0), some (.int x2), some (.int q3), none, none, none, none, none]) (fun Q => g_istore d_T_fitting_26 (Nat.le_of_ble_eq_true rfl) rfl) ?_
  refine S.of1 (pc2 := 29) (fun Q => g_iconst (v := (0 : Int32)) d_T_fitting_28 (by decide)) ?_
  refine S.of1 (pc2 := 31) (L2 := [some (.ref 0), some (.ref r1), some (.ref r2), some (.int v3), some (.int v4), some (.int s0), some (.int x2), some (.int q3), some (.int (0 : Int32)), none, none, none, none]) (fun Q => g_istore d_T_fitting_29 (Nat.le_of_ble_eq_true rfl) rfl) ?_
  exact S.wk (L2 := [some (.ref 0), some (.ref r1), some (.ref r2), some (.int v3), some (.int v4), some (.int s0), some (.int x2), some (.int q3), some (.int (0 : Int32)), none, none, none, none]) (And.intro rfl (And.intro rfl (And.intro rfl (And.intro rfl (And.intro rfl (And.intro rfl (And.intro rfl (And.intro rfl (And.intro rfl trivial))))))))) (s_T_fitting_L31 d hd r1 hr1 r2 hr2 gfu v3 v4 s0 x2 q3 (0 : Int32) σ)
def f_T_fitting (r1 : Nat) (r2 : Nat) (v3 : Int32) (v4 : Int32) (σ : gS) : Option (Int32 × gS) :=
  if v4 = 0 then f_T_fitting_j12 r1 r2 v3 v4 (13 : Int32) σ else f_T_fitting_j12 r1 r2 v3 v4 (8 : Int32) σ
theorem c_T_fitting (d : Nat) (hd : 5 ≤ d) (r1 : Nat) (hr1 : gcls r1 = some 8) (r2 : Nat) (hr2 : gcls r2 = some 8) (v3 : Int32) (v4 : Int32) (σ : gS) : C wI d m_T_fitting [.ref 0, .ref r1, .ref r2, .int v3, .int v4] σ (f_T_fitting r1 r2 v3 v4 σ) := by
  unfold f_T_fitting
  refine C.of (by decide +kernel) (Nat.le_of_ble_eq_true rfl) (L := [some (.ref 0), some (.ref r1), some (.ref r2), some (.int v3), some (.int v4), none, none, none, none, none, none, none, none]) rfl ?_
  refine S.of1 (pc2 := 2) (fun Q => g_iload d_T_fitting_0 rfl) ?_
  refine S.br (c := v4 = 0) (t := 10) (e := 5) (fun Q kt kf => g_if_eq d_T_fitting_2 rfl kt kf) (fun h1 => ?_) (fun h1 => ?_)
  · refine S.of1 (pc2 := 12) (fun Q => g_bipush (v := (13 : Int32)) d_T_fitting_10 (by decide)) ?_
    exact S.wk (L2 := [some (.ref 0), some (.ref r1), some (.ref r2), some (.int v3), some (.int v4), none, none, none, none, none, none, none, none]) (And.intro rfl (And.intro rfl (And.intro rfl (And.intro rfl (And.intro rfl trivial))))) (s_T_fitting_j12 d hd r1 hr1 r2 hr2 v3 v4 (13 : Int32) σ)
  · refine S.of1 (pc2 := 7) (fun Q => g_bipush (v := (8 : Int32)) d_T_fitting_5 (by decide)) ?_
    refine S.of1 (pc2 := 12) (fun Q => g_goto d_T_fitting_7 rfl) ?_
    exact S.wk (L2 := [some (.ref 0), some (.ref r1), some (.ref r2), some (.int v3), some (.int v4), none, none, none, none, none, none, none, none]) (And.intro rfl (And.intro rfl (And.intro rfl (And.intro rfl (And.intro rfl trivial))))) (s_T_fitting_j12 d hd r1 hr1 r2 hr2 v3 v4 (8 : Int32) σ)
def f_T_fits_j77 (v3 : Int32) (s0 : Int32) (s1 : Int32) (t2 : Nat) (t3 : Nat) (σ : gS) : Option (Int32 × gS) :=
  (f_T_fitting t3 t2 s1 s0 σ).bind fun q13 => if v3 = (1 : Int32) then if q13.1 = 0 then some ((-2 : Int32), q13.2) else (f_T_lowestOf q13.1).bind fun q16 => some (q16, q13.2) else if v3 = 0 then (f_JI_bitCount q13.1).bind fun q18 => some (q18, q13.2) else some (q13.1, q13.2)
theorem s_T_fits_j77 (d : Nat) (hd : 6 ≤ d) (v3 : Int32) (s0 : Int32) (s1 : Int32) (t2 : Nat) (ht2 : gcls t2 = some 8) (t3 : Nat) (ht3 : gcls t3 = some 8) (σ : gS) : S wI m_T_fits d 77 [none, none, none, some (.int v3), none] [.int s0, .int s1, .ref t2, .ref t3, .ref 0] σ (f_T_fits_j77 v3 s0 s1 t2 t3 σ) := by
  unfold f_T_fits_j77
  refine S.call_wI (pc3 := 80) rfl (c_T_fitting (d - 1) (by omega) t3 ht3 t2 ht2 s1 s0 σ) (fun Q => g_callV (M2 := m_T_fitting) (vs := [.ref t3, .ref t2, .int s1, .int s0]) (st := []) lv_RX10_236 gk_0 rfl rfl (Nat.le_of_ble_eq_true rfl) (by omega) (Nat.le_of_ble_eq_true rfl) rfl d_T_fits_77) (fun q13 => ?_)
  refine S.of1 (pc2 := 82) (L2 := [none, none, none, some (.int v3), some (.int q13.1)]) (fun Q => g_istore d_T_fits_80 (Nat.le_of_ble_eq_true rfl) rfl) ?_
  refine S.of1 (pc2 := 83) (fun Q => g_iload_n d_T_fits_82 rfl) ?_
  refine S.of1 (pc2 := 84) (fun Q => g_iconst (v := (1 : Int32)) d_T_fits_83 (by decide)) ?_
  refine S.br (c := v3 = (1 : Int32)) (t := 87) (e := 103) (fun Q kt kf => g_icmp_ne d_T_fits_84 rfl kf kt) (fun h14 => ?_) (fun h14 => ?_)
  · refine S.of1 (pc2 := 89) (fun Q => g_iload d_T_fits_87 rfl) ?_
    refine S.br (c := q13.1 = 0) (t := 92) (e := 97) (fun Q kt kf => g_if_ne d_T_fits_89 rfl kf kt) (fun h15 => ?_) (fun h15 => ?_)
    · refine S.of1 (pc2 := 94) (fun Q => g_bipush (v := (-2 : Int32)) d_T_fits_92 (by decide)) ?_
      refine S.of1 (pc2 := 102) (fun Q => g_goto d_T_fits_94 rfl) ?_
      exact S.ret (fun Q hq => g_iret rfl d_T_fits_102 hq)
    · refine S.of1 (pc2 := 99) (fun Q => g_iload d_T_fits_97 rfl) ?_
      refine S.call_rI (pc3 := 102) rfl (c_T_lowestOf (d - 1) (by omega) q13.1 q13.2) (fun Q => g_callS (M2 := m_T_lowestOf) (vs := [.int q13.1]) (st := []) ls_RX10_240 rfl (Nat.le_of_ble_eq_true rfl) (by omega) (Nat.le_of_ble_eq_true rfl) rfl d_T_fits_99) (fun q16 => ?_)
      exact S.ret (fun Q hq => g_iret rfl d_T_fits_102 hq)
  · refine S.of1 (pc2 := 104) (fun Q => g_iload_n d_T_fits_103 rfl) ?_
    refine S.br (c := v3 = 0) (t := 107) (e := 115) (fun Q kt kf => g_if_ne d_T_fits_104 rfl kf kt) (fun h17 => ?_) (fun h17 => ?_)
    · refine S.of1 (pc2 := 109) (fun Q => g_iload d_T_fits_107 rfl) ?_
      refine S.call_rI (pc3 := 112) rfl (c_JI_bitCount (d - 1) (by omega) q13.1 q13.2) (fun Q => g_callS (M2 := m_JI_bitCount) (vs := [.int q13.1]) (st := []) ls_RX10_155 rfl (Nat.le_of_ble_eq_true rfl) (by omega) (Nat.le_of_ble_eq_true rfl) rfl d_T_fits_109) (fun q18 => ?_)
      refine S.of1 (pc2 := 117) (fun Q => g_goto d_T_fits_112 rfl) ?_
      exact S.ret (fun Q hq => g_iret rfl d_T_fits_117 hq)
    · refine S.of1 (pc2 := 117) (fun Q => g_iload d_T_fits_115 rfl) ?_
      exact S.ret (fun Q hq => g_iret rfl d_T_fits_117 hq)
def f_T_fits (v1 : Int32) (v2 : Int32) (v3 : Int32) (σ : gS) : Option (Int32 × gS) :=
  (f_T_areTwo v1 (6 : Int32)).bind fun q1 => if q1 = 0 then some ((-1 : Int32), σ) else (f_T_within v2 (σ.1 1 6)).bind fun q3 => if q3 = 0 then some ((-1 : Int32), σ) else (f_T_within v3 (3 : Int32)).bind fun q5 => if q5 = 0 then some ((-1 : Int32), σ) else (f_T_areOfBytes v1 σ).bind fun q7 => if q7 = 0 then (f_T_refusalOfTwo v1 σ).bind fun q9 => some (q9, σ) else if gix (v1 / (10 : Int32)) 6 then if gix (grem v1 (10 : Int32)) 6 then if v3 = (2 : Int32) then f_T_fits_j77 v3 (1 : Int32) v2 (gshc (grem v1 (10 : Int32))) (gshc (v1 / (10 : Int32))) σ else f_T_fits_j77 v3 (0 : Int32) v2 (gshc (grem v1 (10 : Int32))) (gshc (v1 / (10 : Int32))) σ else none else none
theorem c_T_fits (d : Nat) (hd : 6 ≤ d) (v1 : Int32) (v2 : Int32) (v3 : Int32) (σ : gS) : C wI d m_T_fits [.ref 0, .int v1, .int v2, .int v3] σ (f_T_fits v1 v2 v3 σ) := by
  unfold f_T_fits
  refine C.of (by decide +kernel) (Nat.le_of_ble_eq_true rfl) (L := [some (.ref 0), some (.int v1), some (.int v2), some (.int v3), none]) rfl ?_
  refine S.of1 (pc2 := 1) (fun Q => g_iload_n d_T_fits_0 rfl) ?_
  refine S.of1 (pc2 := 3) (fun Q => g_bipush (v := (6 : Int32)) d_T_fits_1 (by decide)) ?_
  refine S.call_rI (pc3 := 6) rfl (c_T_areTwo (d - 1) (by omega) v1 (6 : Int32) σ) (fun Q => g_callS (M2 := m_T_areTwo) (vs := [.int v1, .int (6 : Int32)]) (st := []) ls_RX10_174 rfl (Nat.le_of_ble_eq_true rfl) (by omega) (Nat.le_of_ble_eq_true rfl) rfl d_T_fits_3) (fun q1 => ?_)
  refine S.br (c := q1 = 0) (t := 31) (e := 9) (fun Q kt kf => g_if_eq d_T_fits_6 rfl kt kf) (fun h2 => ?_) (fun h2 => ?_)
  · refine S.of1 (pc2 := 32) (fun Q => g_iconst (v := (-1 : Int32)) d_T_fits_31 (by decide)) ?_
    exact S.ret (fun Q hq => g_iret rfl d_T_fits_32 hq)
  · refine S.of1 (pc2 := 10) (fun Q => g_iload_n d_T_fits_9 rfl) ?_
    refine S.of1 (pc2 := 11) (fun Q => g_aload_n d_T_fits_10 rfl) ?_
    refine S.of1 (pc2 := 14) (fun Q => g_getr fl_RX10_10 gc_0_0 d_T_fits_11) ?_
    refine S.of1 (pc2 := 17) (fun Q => g_geti fl_RX10_126 gc_1_6 d_T_fits_14) ?_
    refine S.call_rI (pc3 := 20) rfl (c_T_within (d - 1) (by omega) v2 (σ.1 1 6) σ) (fun Q => g_callS (M2 := m_T_within) (vs := [.int v2, .int (σ.1 1 6)]) (st := []) ls_RX10_72 rfl (Nat.le_of_ble_eq_true rfl) (by omega) (Nat.le_of_ble_eq_true rfl) rfl d_T_fits_17) (fun q3 => ?_)
    refine S.br (c := q3 = 0) (t := 31) (e := 23) (fun Q kt kf => g_if_eq d_T_fits_20 rfl kt kf) (fun h4 => ?_) (fun h4 => ?_)
    · refine S.of1 (pc2 := 32) (fun Q => g_iconst (v := (-1 : Int32)) d_T_fits_31 (by decide)) ?_
      exact S.ret (fun Q hq => g_iret rfl d_T_fits_32 hq)
    · refine S.of1 (pc2 := 24) (fun Q => g_iload_n d_T_fits_23 rfl) ?_
      refine S.of1 (pc2 := 25) (fun Q => g_iconst (v := (3 : Int32)) d_T_fits_24 (by decide)) ?_
      refine S.call_rI (pc3 := 28) rfl (c_T_within (d - 1) (by omega) v3 (3 : Int32) σ) (fun Q => g_callS (M2 := m_T_within) (vs := [.int v3, .int (3 : Int32)]) (st := []) ls_RX10_72 rfl (Nat.le_of_ble_eq_true rfl) (by omega) (Nat.le_of_ble_eq_true rfl) rfl d_T_fits_25) (fun q5 => ?_)
      refine S.br (c := q5 = 0) (t := 31) (e := 33) (fun Q kt kf => g_if_ne d_T_fits_28 rfl kf kt) (fun h6 => ?_) (fun h6 => ?_)
      · refine S.of1 (pc2 := 32) (fun Q => g_iconst (v := (-1 : Int32)) d_T_fits_31 (by decide)) ?_
        exact S.ret (fun Q hq => g_iret rfl d_T_fits_32 hq)
      · refine S.of1 (pc2 := 34) (fun Q => g_aload_n d_T_fits_33 rfl) ?_
        refine S.of1 (pc2 := 35) (fun Q => g_iload_n d_T_fits_34 rfl) ?_
        refine S.call_rI (pc3 := 38) rfl (c_T_areOfBytes (d - 1) (by omega) v1 σ) (fun Q => g_callV (M2 := m_T_areOfBytes) (vs := [.int v1]) (st := []) lv_RX10_229 gk_0 rfl rfl (Nat.le_of_ble_eq_true rfl) (by omega) (Nat.le_of_ble_eq_true rfl) rfl d_T_fits_35) (fun q7 => ?_)
        refine S.br (c := q7 = 0) (t := 41) (e := 47) (fun Q kt kf => g_if_ne d_T_fits_38 rfl kf kt) (fun h8 => ?_) (fun h8 => ?_)
        · refine S.of1 (pc2 := 42) (fun Q => g_aload_n d_T_fits_41 rfl) ?_
          refine S.of1 (pc2 := 43) (fun Q => g_iload_n d_T_fits_42 rfl) ?_
          refine S.call_rI (pc3 := 46) rfl (c_T_refusalOfTwo (d - 1) (by omega) v1 σ) (fun Q => g_callV (M2 := m_T_refusalOfTwo) (vs := [.int v1]) (st := []) lv_RX10_232 gk_0 rfl rfl (Nat.le_of_ble_eq_true rfl) (by omega) (Nat.le_of_ble_eq_true rfl) rfl d_T_fits_43) (fun q9 => ?_)
          exact S.ret (fun Q hq => g_iret rfl d_T_fits_46 hq)
        · refine S.of1 (pc2 := 48) (fun Q => g_aload_n d_T_fits_47 rfl) ?_
          refine S.of1 (pc2 := 49) (fun Q => g_aload_n d_T_fits_48 rfl) ?_
          refine S.of1 (pc2 := 52) (fun Q => g_getr fl_RX10_67 gc_0_8 d_T_fits_49) ?_
          refine S.of1 (pc2 := 53) (fun Q => g_iload_n d_T_fits_52 rfl) ?_
          refine S.of1 (pc2 := 55) (fun Q => g_bipush (v := (10 : Int32)) d_T_fits_53 (by decide)) ?_
          refine S.of1 (pc2 := 56) (fun Q => g_idiv d_T_fits_55 (by decide)) ?_
          refine S.chk (fun h10 => ?_)
          refine S.of1 (pc2 := 57) (fun Q => g_aald gra_46 (gix_in h10) (gsh_get h10) d_T_fits_56) ?_
          refine S.of1 (pc2 := 58) (fun Q => g_aload_n d_T_fits_57 rfl) ?_
          refine S.of1 (pc2 := 61) (fun Q => g_getr fl_RX10_67 gc_0_8 d_T_fits_58) ?_
          refine S.of1 (pc2 := 62) (fun Q => g_iload_n d_T_fits_61 rfl) ?_
          refine S.of1 (pc2 := 64) (fun Q => g_bipush (v := (10 : Int32)) d_T_fits_62 (by decide)) ?_
          refine S.of1 (pc2 := 65) (fun Q => g_irem d_T_fits_64 (by decide)) ?_
          refine S.chk (fun h11 => ?_)
          refine S.of1 (pc2 := 66) (fun Q => g_aald gra_46 (gix_in h11) (gsh_get h11) d_T_fits_65) ?_
          refine S.of1 (pc2 := 67) (fun Q => g_iload_n d_T_fits_66 rfl) ?_
          refine S.of1 (pc2 := 68) (fun Q => g_iload_n d_T_fits_67 rfl) ?_
          refine S.of1 (pc2 := 69) (fun Q => g_iconst (v := (2 : Int32)) d_T_fits_68 (by decide)) ?_
          refine S.br (c := v3 = (2 : Int32)) (t := 72) (e := 76) (fun Q kt kf => g_icmp_ne d_T_fits_69 rfl kf kt) (fun h12 => ?_) (fun h12 => ?_)
          · refine S.of1 (pc2 := 73) (fun Q => g_iconst (v := (1 : Int32)) d_T_fits_72 (by decide)) ?_
            refine S.of1 (pc2 := 77) (fun Q => g_goto d_T_fits_73 rfl) ?_
            exact S.wk (L2 := [none, none, none, some (.int v3), none]) (And.intro rfl trivial) (s_T_fits_j77 d hd v3 (1 : Int32) v2 (gshc (grem v1 (10 : Int32))) (gsh_cls h11) (gshc (v1 / (10 : Int32))) (gsh_cls h10) σ)
          · refine S.of1 (pc2 := 77) (fun Q => g_iconst (v := (0 : Int32)) d_T_fits_76 (by decide)) ?_
            exact S.wk (L2 := [none, none, none, some (.int v3), none]) (And.intro rfl trivial) (s_T_fits_j77 d hd v3 (0 : Int32) v2 (gshc (grem v1 (10 : Int32))) (gsh_cls h11) (gshc (v1 / (10 : Int32))) (gsh_cls h10) σ)
def f_Br_bestBuying_j96 (kbestFrom : Int32 → Int32 → Int32 → Int32 → gS → Option (Int32 × gS)) (v1 : Int32) (v4 : Int32) (v5 : Int32) (v6 : Int32) (s0 : Int32) (s1 : Int32) (σ : gS) : Option (Int32 × gS) :=
  (kbestFrom s1 s0 v4 v5 σ).bind fun q10 => if gix v1 10 then gup (gpi q10.2 20 v1.toNatClampNeg v6) fun s12 => gup (gpi s12 18 2 ((s12.1 18 2) ||| ((1 : Int32) <<< (v1 &&& 31)))) fun s13 => some (q10.1, s13) else none
theorem s_Br_bestBuying_j96 (D : Nat) (hD : 2 ≤ D) (kbestFrom : Int32 → Int32 → Int32 → Int32 → gS → Option (Int32 × gS)) (hkbestFrom : ∀ (d : Nat) (_ : D ≤ d) (v1 : Int32) (v2 : Int32) (v3 : Int32) (v4 : Int32) (σ : gS), C wI d m_Br_bestFrom [.ref 18, .int v1, .int v2, .int v3, .int v4] σ (kbestFrom v1 v2 v3 v4 σ)) (d : Nat) (hd : D + 1 ≤ d) (v1 : Int32) (v4 : Int32) (v5 : Int32) (v6 : Int32) (s0 : Int32) (s1 : Int32) (σ : gS) : S wI m_Br_bestBuying d 96 [some (.ref 18), some (.int v1), none, none, some (.int v4), some (.int v5), some (.int v6), none, none] [.int s0, .int s1, .ref 18] σ (f_Br_bestBuying_j96 kbestFrom v1 v4 v5 v6 s0 s1 σ) := by
  unfold f_Br_bestBuying_j96
  refine S.of1 (pc2 := 98) (fun Q => g_iload d_Br_bestBuying_96 rfl) ?_
  refine S.of1 (pc2 := 100) (fun Q => g_iload d_Br_bestBuying_98 rfl) ?_
  refine S.call_wI (pc3 := 103) rfl (hkbestFrom (d - 1) (by omega) s1 s0 v4 v5 σ) (fun Q => g_callV (M2 := m_Br_bestFrom) (vs := [.int s1, .int s0, .int v4, .int v5]) (st := []) lv_RX0_84 gk_18 rfl rfl (Nat.le_of_ble_eq_true rfl) (by omega) (Nat.le_of_ble_eq_true rfl) rfl d_Br_bestBuying_100) (fun q10 => ?_)
  refine S.of1 (pc2 := 105) (L2 := [some (.ref 18), some (.int v1), none, none, some (.int v4), some (.int v5), some (.int v6), none, some (.int q10.1)]) (fun Q => g_istore d_Br_bestBuying_103 (Nat.le_of_ble_eq_true rfl) rfl) ?_
  refine S.of1 (pc2 := 106) (fun Q => g_aload_n d_Br_bestBuying_105 rfl) ?_
  refine S.of1 (pc2 := 109) (fun Q => g_getr fl_RX0_12 gc_18_0 d_Br_bestBuying_106) ?_
  refine S.of1 (pc2 := 112) (fun Q => g_getr fl_RX0_42 gc_19_0 d_Br_bestBuying_109) ?_
  refine S.of1 (pc2 := 113) (fun Q => g_iload_n d_Br_bestBuying_112 rfl) ?_
  refine S.of1 (pc2 := 115) (fun Q => g_iload d_Br_bestBuying_113 rfl) ?_
  refine S.chk (fun h11 => ?_)
  refine S.of1 (pc2 := 116) (fun Q => g_iast ga_20 (gix_in h11) d_Br_bestBuying_115) ?_
  refine S.gup (fun s12 => ?_)
  refine S.of1 (pc2 := 117) (fun Q => g_aload_n d_Br_bestBuying_116 rfl) ?_
  refine S.of1 (pc2 := 118) (fun Q => g_dup d_Br_bestBuying_117 rfl) ?_
  refine S.of1 (pc2 := 121) (fun Q => g_geti fl_RX0_26 gc_18_2 d_Br_bestBuying_118) ?_
  refine S.of1 (pc2 := 122) (fun Q => g_iconst (v := (1 : Int32)) d_Br_bestBuying_121 (by decide)) ?_
  refine S.of1 (pc2 := 123) (fun Q => g_iload_n d_Br_bestBuying_122 rfl) ?_
  refine S.of1 (pc2 := 124) (fun Q => g_ishl d_Br_bestBuying_123) ?_
  refine S.of1 (pc2 := 125) (fun Q => g_ior d_Br_bestBuying_124) ?_
  refine S.of1 (pc2 := 128) (fun Q => g_puti fl_RX0_26 gc_18_2 rfl rfl d_Br_bestBuying_125) ?_
  refine S.gup (fun s13 => ?_)
  refine S.of1 (pc2 := 130) (fun Q => g_iload d_Br_bestBuying_128 rfl) ?_
  exact S.ret (fun Q hq => g_iret rfl d_Br_bestBuying_130 hq)
def f_Br_bestBuying_j67 (kbestFrom : Int32 → Int32 → Int32 → Int32 → gS → Option (Int32 × gS)) (v1 : Int32) (v2 : Int32) (v3 : Int32) (v4 : Int32) (v5 : Int32) (v6 : Int32) (v7 : Int32) (s0 : Int32) (s1 : Int32) (σ : gS) : Option (Int32 × gS) :=
  if gix s1 10 then gup (gpi σ 20 s1.toNatClampNeg s0) fun s7 => if v7 = 0 then if gix v1 10 then f_Br_bestBuying_j96 kbestFrom v1 v4 v5 v6 (v3 + (s7.1 26 v1.toNatClampNeg)) (v2 + (1 : Int32)) s7 else none else if gix v1 10 then f_Br_bestBuying_j96 kbestFrom v1 v4 v5 v6 (v3 - (s7.1 26 v1.toNatClampNeg)) (v2 + (1 : Int32)) s7 else none else none
theorem s_Br_bestBuying_j67 (D : Nat) (hD : 2 ≤ D) (kbestFrom : Int32 → Int32 → Int32 → Int32 → gS → Option (Int32 × gS)) (hkbestFrom : ∀ (d : Nat) (_ : D ≤ d) (v1 : Int32) (v2 : Int32) (v3 : Int32) (v4 : Int32) (σ : gS), C wI d m_Br_bestFrom [.ref 18, .int v1, .int v2, .int v3, .int v4] σ (kbestFrom v1 v2 v3 v4 σ)) (d : Nat) (hd : D + 1 ≤ d) (v1 : Int32) (v2 : Int32) (v3 : Int32) (v4 : Int32) (v5 : Int32) (v6 : Int32) (v7 : Int32) (s0 : Int32) (s1 : Int32) (σ : gS) : S wI m_Br_bestBuying d 67 [some (.ref 18), some (.int v1), some (.int v2), some (.int v3), some (.int v4), some (.int v5), some (.int v6), some (.int v7), none] [.int s0, .int s1, .ref 20] σ (f_Br_bestBuying_j67 kbestFrom v1 v2 v3 v4 v5 v6 v7 s0 s1 σ) := by
  unfold f_Br_bestBuying_j67
  refine S.chk (fun h6 => ?_)
  refine S.of1 (pc2 := 68) (fun Q => g_iast ga_20 (gix_in h6) d_Br_bestBuying_67) ?_
  refine S.gup (fun s7 => ?_)
  refine S.of1 (pc2 := 69) (fun Q => g_aload_n d_Br_bestBuying_68 rfl) ?_
  refine S.of1 (pc2 := 70) (fun Q => g_iload_n d_Br_bestBuying_69 rfl) ?_
  refine S.of1 (pc2 := 71) (fun Q => g_iconst (v := (1 : Int32)) d_Br_bestBuying_70 (by decide)) ?_
  refine S.of1 (pc2 := 72) (fun Q => g_iadd d_Br_bestBuying_71) ?_
  refine S.of1 (pc2 := 74) (fun Q => g_iload d_Br_bestBuying_72 rfl) ?_
  refine S.br (c := v7 = 0) (t := 88) (e := 77) (fun Q kt kf => g_if_eq d_Br_bestBuying_74 rfl kt kf) (fun h8 => ?_) (fun h8 => ?_)
  · refine S.of1 (pc2 := 89) (fun Q => g_iload_n d_Br_bestBuying_88 rfl) ?_
    refine S.of1 (pc2 := 90) (fun Q => g_aload_n d_Br_bestBuying_89 rfl) ?_
    refine S.of1 (pc2 := 93) (fun Q => g_getr fl_RX0_18 gc_18_1 d_Br_bestBuying_90) ?_
    refine S.of1 (pc2 := 94) (fun Q => g_iload_n d_Br_bestBuying_93 rfl) ?_
    refine S.chk (fun h9 => ?_)
    refine S.of1 (pc2 := 95) (fun Q => g_iald ga_26 (gix_in h9) d_Br_bestBuying_94) ?_
    refine S.of1 (pc2 := 96) (fun Q => g_iadd d_Br_bestBuying_95) ?_
    exact S.wk (L2 := [some (.ref 18), some (.int v1), none, none, some (.int v4), some (.int v5), some (.int v6), none, none]) (And.intro rfl (And.intro rfl (And.intro rfl (And.intro rfl (And.intro rfl trivial))))) (s_Br_bestBuying_j96 D hD kbestFrom hkbestFrom d hd v1 v4 v5 v6 (v3 + (s7.1 26 v1.toNatClampNeg)) (v2 + (1 : Int32)) s7)
  · refine S.of1 (pc2 := 78) (fun Q => g_iload_n d_Br_bestBuying_77 rfl) ?_
    refine S.of1 (pc2 := 79) (fun Q => g_aload_n d_Br_bestBuying_78 rfl) ?_
    refine S.of1 (pc2 := 82) (fun Q => g_getr fl_RX0_18 gc_18_1 d_Br_bestBuying_79) ?_
    refine S.of1 (pc2 := 83) (fun Q => g_iload_n d_Br_bestBuying_82 rfl) ?_
    refine S.chk (fun h14 => ?_)
    refine S.of1 (pc2 := 84) (fun Q => g_iald ga_26 (gix_in h14) d_Br_bestBuying_83) ?_
    refine S.of1 (pc2 := 85) (fun Q => g_isub d_Br_bestBuying_84) ?_
    refine S.of1 (pc2 := 96) (fun Q => g_goto d_Br_bestBuying_85 rfl) ?_
    exact S.wk (L2 := [some (.ref 18), some (.int v1), none, none, some (.int v4), some (.int v5), some (.int v6), none, none]) (And.intro rfl (And.intro rfl (And.intro rfl (And.intro rfl (And.intro rfl trivial))))) (s_Br_bestBuying_j96 D hD kbestFrom hkbestFrom d hd v1 v4 v5 v6 (v3 - (s7.1 26 v1.toNatClampNeg)) (v2 + (1 : Int32)) s7)
def f_Br_bestBuying_j22 (kbestFrom : Int32 → Int32 → Int32 → Int32 → gS → Option (Int32 × gS)) (v1 : Int32) (v2 : Int32) (v3 : Int32) (v4 : Int32) (v5 : Int32) (v6 : Int32) (s0 : Int32) (σ : gS) : Option (Int32 × gS) :=
  gup (gpi σ 18 2 ((σ.1 18 2) &&& (((1 : Int32) <<< (v1 &&& 31)) ^^^ (-1 : Int32)))) fun s4 => if s0 = 0 then f_Br_bestBuying_j67 kbestFrom v1 v2 v3 v4 v5 v6 s0 (grem ((s4.1 18 3) + (1 : Int32)) (6 : Int32)) v1 s4 else f_Br_bestBuying_j67 kbestFrom v1 v2 v3 v4 v5 v6 s0 (s4.1 18 3) v1 s4
theorem s_Br_bestBuying_j22 (D : Nat) (hD : 2 ≤ D) (kbestFrom : Int32 → Int32 → Int32 → Int32 → gS → Option (Int32 × gS)) (hkbestFrom : ∀ (d : Nat) (_ : D ≤ d) (v1 : Int32) (v2 : Int32) (v3 : Int32) (v4 : Int32) (σ : gS), C wI d m_Br_bestFrom [.ref 18, .int v1, .int v2, .int v3, .int v4] σ (kbestFrom v1 v2 v3 v4 σ)) (d : Nat) (hd : D + 1 ≤ d) (v1 : Int32) (v2 : Int32) (v3 : Int32) (v4 : Int32) (v5 : Int32) (v6 : Int32) (s0 : Int32) (σ : gS) : S wI m_Br_bestBuying d 22 [some (.ref 18), some (.int v1), some (.int v2), some (.int v3), some (.int v4), some (.int v5), some (.int v6), none, none] [.int s0] σ (f_Br_bestBuying_j22 kbestFrom v1 v2 v3 v4 v5 v6 s0 σ) := by
  unfold f_Br_bestBuying_j22
  refine S.of1 (pc2 := 24) (L2 := [some (.ref 18), some (.int v1), some (.int v2), some (.int v3), some (.int v4), some (.int v5), some (.int v6), some (.int s0), none]) (fun Q => g_istore d_Br_bestBuying_22 (Nat.le_of_ble_eq_true rfl) rfl) ?_
  refine S.of1 (pc2 := 25) (fun Q => g_aload_n d_Br_bestBuying_24 rfl) ?_
  refine S.of1 (pc2 := 26) (fun Q => g_dup d_Br_bestBuying_25 rfl) ?_
  refine S.of1 (pc2 := 29) (fun Q => g_geti fl_RX0_26 gc_18_2 d_Br_bestBuying_26) ?_
  refine S.of1 (pc2 := 30) (fun Q => g_iconst (v := (1 : Int32)) d_Br_bestBuying_29 (by decide)) ?_
  refine S.of1 (pc2 := 31) (fun Q => g_iload_n d_Br_bestBuying_30 rfl) ?_
  refine S.of1 (pc2 := 32) (fun Q => g_ishl d_Br_bestBuying_31) ?_
  refine S.of1 (pc2 := 33) (fun Q => g_iconst (v := (-1 : Int32)) d_Br_bestBuying_32 (by decide)) ?_
  refine S.of1 (pc2 := 34) (fun Q => g_ixor d_Br_bestBuying_33) ?_
  refine S.of1 (pc2 := 35) (fun Q => g_iand d_Br_bestBuying_34) ?_
  refine S.of1 (pc2 := 38) (fun Q => g_puti fl_RX0_26 gc_18_2 rfl rfl d_Br_bestBuying_35) ?_
  refine S.gup (fun s4 => ?_)
  refine S.of1 (pc2 := 39) (fun Q => g_aload_n d_Br_bestBuying_38 rfl) ?_
  refine S.of1 (pc2 := 42) (fun Q => g_getr fl_RX0_12 gc_18_0 d_Br_bestBuying_39) ?_
  refine S.of1 (pc2 := 45) (fun Q => g_getr fl_RX0_42 gc_19_0 d_Br_bestBuying_42) ?_
  refine S.of1 (pc2 := 46) (fun Q => g_iload_n d_Br_bestBuying_45 rfl) ?_
  refine S.of1 (pc2 := 48) (fun Q => g_iload d_Br_bestBuying_46 rfl) ?_
  refine S.br (c := s0 = 0) (t := 58) (e := 51) (fun Q kt kf => g_if_eq d_Br_bestBuying_48 rfl kt kf) (fun h5 => ?_) (fun h5 => ?_)
  · refine S.of1 (pc2 := 59) (fun Q => g_aload_n d_Br_bestBuying_58 rfl) ?_
    refine S.of1 (pc2 := 62) (fun Q => g_geti fl_RX0_74 gc_18_3 d_Br_bestBuying_59) ?_
    refine S.of1 (pc2 := 63) (fun Q => g_iconst (v := (1 : Int32)) d_Br_bestBuying_62 (by decide)) ?_
    refine S.of1 (pc2 := 64) (fun Q => g_iadd d_Br_bestBuying_63) ?_
    refine S.of1 (pc2 := 66) (fun Q => g_bipush (v := (6 : Int32)) d_Br_bestBuying_64 (by decide)) ?_
    refine S.of1 (pc2 := 67) (fun Q => g_irem d_Br_bestBuying_66 (by decide)) ?_
    exact S.wk (L2 := [some (.ref 18), some (.int v1), some (.int v2), some (.int v3), some (.int v4), some (.int v5), some (.int v6), some (.int s0), none]) (And.intro rfl (And.intro rfl (And.intro rfl (And.intro rfl (And.intro rfl (And.intro rfl (And.intro rfl (And.intro rfl trivial)))))))) (s_Br_bestBuying_j67 D hD kbestFrom hkbestFrom d hd v1 v2 v3 v4 v5 v6 s0 (grem ((s4.1 18 3) + (1 : Int32)) (6 : Int32)) v1 s4)
  · refine S.of1 (pc2 := 52) (fun Q => g_aload_n d_Br_bestBuying_51 rfl) ?_
    refine S.of1 (pc2 := 55) (fun Q => g_geti fl_RX0_74 gc_18_3 d_Br_bestBuying_52) ?_
    refine S.of1 (pc2 := 67) (fun Q => g_goto d_Br_bestBuying_55 rfl) ?_
    exact S.wk (L2 := [some (.ref 18), some (.int v1), some (.int v2), some (.int v3), some (.int v4), some (.int v5), some (.int v6), some (.int s0), none]) (And.intro rfl (And.intro rfl (And.intro rfl (And.intro rfl (And.intro rfl (And.intro rfl (And.intro rfl (And.intro rfl trivial)))))))) (s_Br_bestBuying_j67 D hD kbestFrom hkbestFrom d hd v1 v2 v3 v4 v5 v6 s0 (s4.1 18 3) v1 s4)
def fo_Br_bestBuying (kbestFrom : Int32 → Int32 → Int32 → Int32 → gS → Option (Int32 × gS)) (v1 : Int32) (v2 : Int32) (v3 : Int32) (v4 : Int32) (v5 : Int32) (σ : gS) : Option (Int32 × gS) :=
  if gix v1 10 then glt (σ.1 20 v1.toNatClampNeg) fun x2 => if (grem v2 (2 : Int32)) = 0 then f_Br_bestBuying_j22 kbestFrom v1 v2 v3 v4 v5 x2 (1 : Int32) σ else f_Br_bestBuying_j22 kbestFrom v1 v2 v3 v4 v5 x2 (0 : Int32) σ else none
theorem co_Br_bestBuying (D : Nat) (hD : 2 ≤ D) (kbestFrom : Int32 → Int32 → Int32 → Int32 → gS → Option (Int32 × gS)) (hkbestFrom : ∀ (d : Nat) (_ : D ≤ d) (v1 : Int32) (v2 : Int32) (v3 : Int32) (v4 : Int32) (σ : gS), C wI d m_Br_bestFrom [.ref 18, .int v1, .int v2, .int v3, .int v4] σ (kbestFrom v1 v2 v3 v4 σ)) (d : Nat) (hd : D + 1 ≤ d) (v1 : Int32) (v2 : Int32) (v3 : Int32) (v4 : Int32) (v5 : Int32) (σ : gS) : C wI d m_Br_bestBuying [.ref 18, .int v1, .int v2, .int v3, .int v4, .int v5] σ (fo_Br_bestBuying kbestFrom v1 v2 v3 v4 v5 σ) := by
  unfold fo_Br_bestBuying
  refine C.of (by decide +kernel) (Nat.le_of_ble_eq_true rfl) (L := [some (.ref 18), some (.int v1), some (.int v2), some (.int v3), some (.int v4), some (.int v5), none, none, none]) rfl ?_
  refine S.of1 (pc2 := 1) (fun Q => g_aload_n d_Br_bestBuying_0 rfl) ?_
  refine S.of1 (pc2 := 4) (fun Q => g_getr fl_RX0_12 gc_18_0 d_Br_bestBuying_1) ?_
  refine S.of1 (pc2 := 7) (fun Q => g_getr fl_RX0_42 gc_19_0 d_Br_bestBuying_4) ?_
  refine S.of1 (pc2 := 8) (fun Q => g_iload_n d_Br_bestBuying_7 rfl) ?_
  refine S.chk (fun h1 => ?_)
  refine S.of1 (pc2 := 9) (fun Q => g_iald ga_20 (gix_in h1) d_Br_bestBuying_8) ?_
  refine S.of1 (pc2 := 11) (L2 := [some (.ref 18), some (.int v1), some (.int v2), some (.int v3), some (.int v4), some (.int v5), some (.int (σ.1 20 v1.toNatClampNeg)), none, none]) (fun Q => g_istore d_Br_bestBuying_9 (Nat.le_of_ble_eq_true rfl) rfl) ?_
  refine S.glt (x := (σ.1 20 v1.toNatClampNeg)) (Lf := fun y => [some (.ref 18), some (.int v1), some (.int v2), some (.int v3), some (.int v4), some (.int v5), some (.int y), none, none]) (fun x2 => ?_)
  refine S.of1 (pc2 := 12) (fun Q => g_iload_n d_Br_bestBuying_11 rfl) ?_
  refine S.of1 (pc2 := 13) (fun Q => g_iconst (v := (2 : Int32)) d_Br_bestBuying_12 (by decide)) ?_
  refine S.of1 (pc2 := 14) (fun Q => g_irem d_Br_bestBuying_13 (by decide)) ?_
  refine S.br (c := (grem v2 (2 : Int32)) = 0) (t := 17) (e := 21) (fun Q kt kf => g_if_ne d_Br_bestBuying_14 rfl kf kt) (fun h3 => ?_) (fun h3 => ?_)
  · refine S.of1 (pc2 := 18) (fun Q => g_iconst (v := (1 : Int32)) d_Br_bestBuying_17 (by decide)) ?_
    refine S.of1 (pc2 := 22) (fun Q => g_goto d_Br_bestBuying_18 rfl) ?_
    exact S.wk (L2 := [some (.ref 18), some (.int v1), some (.int v2), some (.int v3), some (.int v4), some (.int v5), some (.int x2), none, none]) (And.intro rfl (And.intro rfl (And.intro rfl (And.intro rfl (And.intro rfl (And.intro rfl (And.intro rfl trivial))))))) (s_Br_bestBuying_j22 D hD kbestFrom hkbestFrom d hd v1 v2 v3 v4 v5 x2 (1 : Int32) σ)
  · refine S.of1 (pc2 := 22) (fun Q => g_iconst (v := (0 : Int32)) d_Br_bestBuying_21 (by decide)) ?_
    exact S.wk (L2 := [some (.ref 18), some (.int v1), some (.int v2), some (.int v3), some (.int v4), some (.int v5), some (.int x2), none, none]) (And.intro rfl (And.intro rfl (And.intro rfl (And.intro rfl (And.intro rfl (And.intro rfl (And.intro rfl trivial))))))) (s_Br_bestBuying_j22 D hD kbestFrom hkbestFrom d hd v1 v2 v3 v4 v5 x2 (0 : Int32) σ)
def f_Br_bestFrom_j193 (kbestFrom : Int32 → Int32 → Int32 → Int32 → gS → Option (Int32 × gS)) (k47 : Int32 → Int32 → Int32 → Int32 → Int32 → Int32 → gS → Option (Int32 × gS)) (v1 : Int32) (v2 : Int32) (v3 : Int32) (v4 : Int32) (v5 : Int32) (v6 : Int32) (s0 : Int32) (σ : gS) : Option (Int32 × gS) :=
  gup (gpi σ 18 8 s0) fun s14 => k47 v1 v2 v3 v4 v5 (v6 + (1 : Int32)) s14
theorem s_Br_bestFrom_j193 (D : Nat) (hD : 2 ≤ D) (kbestFrom : Int32 → Int32 → Int32 → Int32 → gS → Option (Int32 × gS)) (hkbestFrom : ∀ (d : Nat) (_ : D ≤ d) (v1 : Int32) (v2 : Int32) (v3 : Int32) (v4 : Int32) (σ : gS), C wI d m_Br_bestFrom [.ref 18, .int v1, .int v2, .int v3, .int v4] σ (kbestFrom v1 v2 v3 v4 σ)) (d : Nat) (hd : D + 2 ≤ d) (k47 : Int32 → Int32 → Int32 → Int32 → Int32 → Int32 → gS → Option (Int32 × gS)) (hk47 : ∀ (v1 : Int32) (v2 : Int32) (v3 : Int32) (v4 : Int32) (v5 : Int32) (v6 : Int32) (τ : gS), S wI m_Br_bestFrom d 47 [some (.ref 18), some (.int v1), some (.int v2), some (.int v3), some (.int v4), some (.int v5), some (.int v6), none, none] [] τ (k47 v1 v2 v3 v4 v5 v6 τ)) (v1 : Int32) (v2 : Int32) (v3 : Int32) (v4 : Int32) (v5 : Int32) (v6 : Int32) (s0 : Int32) (σ : gS) : S wI m_Br_bestFrom d 193 [some (.ref 18), some (.int v1), some (.int v2), some (.int v3), some (.int v4), some (.int v5), some (.int v6), none, none] [.int s0, .ref 18] σ (f_Br_bestFrom_j193 kbestFrom k47 v1 v2 v3 v4 v5 v6 s0 σ) := by
  unfold f_Br_bestFrom_j193
  refine S.of1 (pc2 := 196) (fun Q => g_puti fl_RX0_80 gc_18_8 rfl rfl d_Br_bestFrom_193) ?_
  refine S.gup (fun s14 => ?_)
  refine S.of1 (pc2 := 199) (L2 := [some (.ref 18), some (.int v1), some (.int v2), some (.int v3), some (.int v4), some (.int v5), some (.int (v6 + (1 : Int32))), none, none]) (fun Q => g_iinc d_Br_bestFrom_196 rfl (congrArg (fun z => v6 + z) (by decide)) (Nat.le_of_ble_eq_true rfl) rfl) ?_
  refine S.of1 (pc2 := 47) (fun Q => g_goto d_Br_bestFrom_199 rfl) ?_
  exact S.wk (L2 := [some (.ref 18), some (.int v1), some (.int v2), some (.int v3), some (.int v4), some (.int v5), some (.int (v6 + (1 : Int32))), none, none]) (And.intro rfl (And.intro rfl (And.intro rfl (And.intro rfl (And.intro rfl (And.intro rfl (And.intro rfl trivial))))))) (hk47 v1 v2 v3 v4 v5 (v6 + (1 : Int32)) s14)
def f_Br_bestFrom_j175 (kbestFrom : Int32 → Int32 → Int32 → Int32 → gS → Option (Int32 × gS)) (k47 : Int32 → Int32 → Int32 → Int32 → Int32 → Int32 → gS → Option (Int32 × gS)) (v1 : Int32) (v2 : Int32) (v3 : Int32) (v4 : Int32) (v6 : Int32) (v8 : Int32) (σ : gS) : Option (Int32 × gS) :=
  if v1 = 0 then f_Br_bestFrom_j193 kbestFrom k47 v1 v2 v3 v4 v8 v6 v6 σ else f_Br_bestFrom_j193 kbestFrom k47 v1 v2 v3 v4 v8 v6 (σ.1 18 8) σ
theorem s_Br_bestFrom_j175 (D : Nat) (hD : 2 ≤ D) (kbestFrom : Int32 → Int32 → Int32 → Int32 → gS → Option (Int32 × gS)) (hkbestFrom : ∀ (d : Nat) (_ : D ≤ d) (v1 : Int32) (v2 : Int32) (v3 : Int32) (v4 : Int32) (σ : gS), C wI d m_Br_bestFrom [.ref 18, .int v1, .int v2, .int v3, .int v4] σ (kbestFrom v1 v2 v3 v4 σ)) (d : Nat) (hd : D + 2 ≤ d) (k47 : Int32 → Int32 → Int32 → Int32 → Int32 → Int32 → gS → Option (Int32 × gS)) (hk47 : ∀ (v1 : Int32) (v2 : Int32) (v3 : Int32) (v4 : Int32) (v5 : Int32) (v6 : Int32) (τ : gS), S wI m_Br_bestFrom d 47 [some (.ref 18), some (.int v1), some (.int v2), some (.int v3), some (.int v4), some (.int v5), some (.int v6), none, none] [] τ (k47 v1 v2 v3 v4 v5 v6 τ)) (v1 : Int32) (v2 : Int32) (v3 : Int32) (v4 : Int32) (v6 : Int32) (v8 : Int32) (σ : gS) : S wI m_Br_bestFrom d 175 [some (.ref 18), some (.int v1), some (.int v2), some (.int v3), some (.int v4), none, some (.int v6), none, some (.int v8)] [] σ (f_Br_bestFrom_j175 kbestFrom k47 v1 v2 v3 v4 v6 v8 σ) := by
  unfold f_Br_bestFrom_j175
  refine S.of1 (pc2 := 177) (fun Q => g_iload d_Br_bestFrom_175 rfl) ?_
  refine S.of1 (pc2 := 179) (L2 := [some (.ref 18), some (.int v1), some (.int v2), some (.int v3), some (.int v4), some (.int v8), some (.int v6), none, some (.int v8)]) (fun Q => g_istore d_Br_bestFrom_177 (Nat.le_of_ble_eq_true rfl) rfl) ?_
  refine S.of1 (pc2 := 180) (fun Q => g_aload_n d_Br_bestFrom_179 rfl) ?_
  refine S.of1 (pc2 := 181) (fun Q => g_iload_n d_Br_bestFrom_180 rfl) ?_
  refine S.br (c := v1 = 0) (t := 184) (e := 189) (fun Q kt kf => g_if_ne d_Br_bestFrom_181 rfl kf kt) (fun h13 => ?_) (fun h13 => ?_)
  · refine S.of1 (pc2 := 186) (fun Q => g_iload d_Br_bestFrom_184 rfl) ?_
    refine S.of1 (pc2 := 193) (fun Q => g_goto d_Br_bestFrom_186 rfl) ?_
    exact S.wk (L2 := [some (.ref 18), some (.int v1), some (.int v2), some (.int v3), some (.int v4), some (.int v8), some (.int v6), none, none]) (And.intro rfl (And.intro rfl (And.intro rfl (And.intro rfl (And.intro rfl (And.intro rfl (And.intro rfl trivial))))))) (s_Br_bestFrom_j193 D hD kbestFrom hkbestFrom d hd k47 hk47 v1 v2 v3 v4 v8 v6 v6 σ)
  · refine S.of1 (pc2 := 190) (fun Q => g_aload_n d_Br_bestFrom_189 rfl) ?_
    refine S.of1 (pc2 := 193) (fun Q => g_geti fl_RX0_80 gc_18_8 d_Br_bestFrom_190) ?_
    exact S.wk (L2 := [some (.ref 18), some (.int v1), some (.int v2), some (.int v3), some (.int v4), some (.int v8), some (.int v6), none, none]) (And.intro rfl (And.intro rfl (And.intro rfl (And.intro rfl (And.intro rfl (And.intro rfl (And.intro rfl trivial))))))) (s_Br_bestFrom_j193 D hD kbestFrom hkbestFrom d hd k47 hk47 v1 v2 v3 v4 v8 v6 (σ.1 18 8) σ)
def f_Br_bestFrom_j151 (kbestFrom : Int32 → Int32 → Int32 → Int32 → gS → Option (Int32 × gS)) (k47 : Int32 → Int32 → Int32 → Int32 → Int32 → Int32 → gS → Option (Int32 × gS)) (v1 : Int32) (v2 : Int32) (v3 : Int32) (v4 : Int32) (v5 : Int32) (v6 : Int32) (v7 : Int32) (s0 : Int32) (σ : gS) : Option (Int32 × gS) :=
  if v7 = 0 then if v5 ≤ s0 then k47 v1 v2 v3 v4 v5 (v6 + (1 : Int32)) σ else f_Br_bestFrom_j175 kbestFrom k47 v1 v2 v3 v4 v6 s0 σ else if s0 ≤ v5 then k47 v1 v2 v3 v4 v5 (v6 + (1 : Int32)) σ else f_Br_bestFrom_j175 kbestFrom k47 v1 v2 v3 v4 v6 s0 σ
theorem s_Br_bestFrom_j151 (D : Nat) (hD : 2 ≤ D) (kbestFrom : Int32 → Int32 → Int32 → Int32 → gS → Option (Int32 × gS)) (hkbestFrom : ∀ (d : Nat) (_ : D ≤ d) (v1 : Int32) (v2 : Int32) (v3 : Int32) (v4 : Int32) (σ : gS), C wI d m_Br_bestFrom [.ref 18, .int v1, .int v2, .int v3, .int v4] σ (kbestFrom v1 v2 v3 v4 σ)) (d : Nat) (hd : D + 2 ≤ d) (k47 : Int32 → Int32 → Int32 → Int32 → Int32 → Int32 → gS → Option (Int32 × gS)) (hk47 : ∀ (v1 : Int32) (v2 : Int32) (v3 : Int32) (v4 : Int32) (v5 : Int32) (v6 : Int32) (τ : gS), S wI m_Br_bestFrom d 47 [some (.ref 18), some (.int v1), some (.int v2), some (.int v3), some (.int v4), some (.int v5), some (.int v6), none, none] [] τ (k47 v1 v2 v3 v4 v5 v6 τ)) (v1 : Int32) (v2 : Int32) (v3 : Int32) (v4 : Int32) (v5 : Int32) (v6 : Int32) (v7 : Int32) (s0 : Int32) (σ : gS) : S wI m_Br_bestFrom d 151 [some (.ref 18), some (.int v1), some (.int v2), some (.int v3), some (.int v4), some (.int v5), some (.int v6), some (.int v7), none] [.int s0] σ (f_Br_bestFrom_j151 kbestFrom k47 v1 v2 v3 v4 v5 v6 v7 s0 σ) := by
  unfold f_Br_bestFrom_j151
  refine S.of1 (pc2 := 153) (L2 := [some (.ref 18), some (.int v1), some (.int v2), some (.int v3), some (.int v4), some (.int v5), some (.int v6), some (.int v7), some (.int s0)]) (fun Q => g_istore d_Br_bestFrom_151 (Nat.le_of_ble_eq_true rfl) rfl) ?_
  refine S.of1 (pc2 := 155) (fun Q => g_iload d_Br_bestFrom_153 rfl) ?_
  refine S.br (c := v7 = 0) (t := 168) (e := 158) (fun Q kt kf => g_if_eq d_Br_bestFrom_155 rfl kt kf) (fun h11 => ?_) (fun h11 => ?_)
  · refine S.of1 (pc2 := 170) (fun Q => g_iload d_Br_bestFrom_168 rfl) ?_
    refine S.of1 (pc2 := 172) (fun Q => g_iload d_Br_bestFrom_170 rfl) ?_
    refine S.br (c := v5 ≤ s0) (t := 196) (e := 175) (fun Q kt kf => g_icmp_ge d_Br_bestFrom_172 rfl kt kf) (fun h12 => ?_) (fun h12 => ?_)
    · refine S.of1 (pc2 := 199) (L2 := [some (.ref 18), some (.int v1), some (.int v2), some (.int v3), some (.int v4), some (.int v5), some (.int (v6 + (1 : Int32))), some (.int v7), some (.int s0)]) (fun Q => g_iinc d_Br_bestFrom_196 rfl (congrArg (fun z => v6 + z) (by decide)) (Nat.le_of_ble_eq_true rfl) rfl) ?_
      refine S.of1 (pc2 := 47) (fun Q => g_goto d_Br_bestFrom_199 rfl) ?_
      exact S.wk (L2 := [some (.ref 18), some (.int v1), some (.int v2), some (.int v3), some (.int v4), some (.int v5), some (.int (v6 + (1 : Int32))), none, none]) (And.intro rfl (And.intro rfl (And.intro rfl (And.intro rfl (And.intro rfl (And.intro rfl (And.intro rfl trivial))))))) (hk47 v1 v2 v3 v4 v5 (v6 + (1 : Int32)) σ)
    · exact S.wk (L2 := [some (.ref 18), some (.int v1), some (.int v2), some (.int v3), some (.int v4), none, some (.int v6), none, some (.int s0)]) (And.intro rfl (And.intro rfl (And.intro rfl (And.intro rfl (And.intro rfl (And.intro rfl (And.intro rfl trivial))))))) (s_Br_bestFrom_j175 D hD kbestFrom hkbestFrom d hd k47 hk47 v1 v2 v3 v4 v6 s0 σ)
  · refine S.of1 (pc2 := 160) (fun Q => g_iload d_Br_bestFrom_158 rfl) ?_
    refine S.of1 (pc2 := 162) (fun Q => g_iload d_Br_bestFrom_160 rfl) ?_
    refine S.br (c := s0 ≤ v5) (t := 196) (e := 165) (fun Q kt kf => g_icmp_le d_Br_bestFrom_162 rfl kt kf) (fun h15 => ?_) (fun h15 => ?_)
    · refine S.of1 (pc2 := 199) (L2 := [some (.ref 18), some (.int v1), some (.int v2), some (.int v3), some (.int v4), some (.int v5), some (.int (v6 + (1 : Int32))), some (.int v7), some (.int s0)]) (fun Q => g_iinc d_Br_bestFrom_196 rfl (congrArg (fun z => v6 + z) (by decide)) (Nat.le_of_ble_eq_true rfl) rfl) ?_
      refine S.of1 (pc2 := 47) (fun Q => g_goto d_Br_bestFrom_199 rfl) ?_
      exact S.wk (L2 := [some (.ref 18), some (.int v1), some (.int v2), some (.int v3), some (.int v4), some (.int v5), some (.int (v6 + (1 : Int32))), none, none]) (And.intro rfl (And.intro rfl (And.intro rfl (And.intro rfl (And.intro rfl (And.intro rfl (And.intro rfl trivial))))))) (hk47 v1 v2 v3 v4 v5 (v6 + (1 : Int32)) σ)
    · refine S.of1 (pc2 := 175) (fun Q => g_goto d_Br_bestFrom_165 rfl) ?_
      exact S.wk (L2 := [some (.ref 18), some (.int v1), some (.int v2), some (.int v3), some (.int v4), none, some (.int v6), none, some (.int s0)]) (And.intro rfl (And.intro rfl (And.intro rfl (And.intro rfl (And.intro rfl (And.intro rfl (And.intro rfl trivial))))))) (s_Br_bestFrom_j175 D hD kbestFrom hkbestFrom d hd k47 hk47 v1 v2 v3 v4 v6 s0 σ)
def f_Br_bestFrom_j111 (kbestFrom : Int32 → Int32 → Int32 → Int32 → gS → Option (Int32 × gS)) (k47 : Int32 → Int32 → Int32 → Int32 → Int32 → Int32 → gS → Option (Int32 × gS)) (v1 : Int32) (v2 : Int32) (v3 : Int32) (v4 : Int32) (v5 : Int32) (v6 : Int32) (v7 : Int32) (σ : gS) : Option (Int32 × gS) :=
  if v7 = 0 then (fo_Br_bestBuying kbestFrom v6 v1 v2 v3 (gmin v4 v5) σ).bind fun q10 => f_Br_bestFrom_j151 kbestFrom k47 v1 v2 v3 v4 v5 v6 v7 q10.1 q10.2 else (fo_Br_bestBuying kbestFrom v6 v1 v2 (gmax v3 v5) v4 σ).bind fun q16 => f_Br_bestFrom_j151 kbestFrom k47 v1 v2 v3 v4 v5 v6 v7 q16.1 q16.2
theorem s_Br_bestFrom_j111 (D : Nat) (hD : 2 ≤ D) (kbestFrom : Int32 → Int32 → Int32 → Int32 → gS → Option (Int32 × gS)) (hkbestFrom : ∀ (d : Nat) (_ : D ≤ d) (v1 : Int32) (v2 : Int32) (v3 : Int32) (v4 : Int32) (σ : gS), C wI d m_Br_bestFrom [.ref 18, .int v1, .int v2, .int v3, .int v4] σ (kbestFrom v1 v2 v3 v4 σ)) (d : Nat) (hd : D + 2 ≤ d) (k47 : Int32 → Int32 → Int32 → Int32 → Int32 → Int32 → gS → Option (Int32 × gS)) (hk47 : ∀ (v1 : Int32) (v2 : Int32) (v3 : Int32) (v4 : Int32) (v5 : Int32) (v6 : Int32) (τ : gS), S wI m_Br_bestFrom d 47 [some (.ref 18), some (.int v1), some (.int v2), some (.int v3), some (.int v4), some (.int v5), some (.int v6), none, none] [] τ (k47 v1 v2 v3 v4 v5 v6 τ)) (v1 : Int32) (v2 : Int32) (v3 : Int32) (v4 : Int32) (v5 : Int32) (v6 : Int32) (v7 : Int32) (σ : gS) : S wI m_Br_bestFrom d 111 [some (.ref 18), some (.int v1), some (.int v2), some (.int v3), some (.int v4), some (.int v5), some (.int v6), some (.int v7), none] [] σ (f_Br_bestFrom_j111 kbestFrom k47 v1 v2 v3 v4 v5 v6 v7 σ) := by
  unfold f_Br_bestFrom_j111
  refine S.of1 (pc2 := 113) (fun Q => g_iload d_Br_bestFrom_111 rfl) ?_
  refine S.br (c := v7 = 0) (t := 135) (e := 116) (fun Q kt kf => g_if_eq d_Br_bestFrom_113 rfl kt kf) (fun h9 => ?_) (fun h9 => ?_)
  · refine S.of1 (pc2 := 136) (fun Q => g_aload_n d_Br_bestFrom_135 rfl) ?_
    refine S.of1 (pc2 := 138) (fun Q => g_iload d_Br_bestFrom_136 rfl) ?_
    refine S.of1 (pc2 := 139) (fun Q => g_iload_n d_Br_bestFrom_138 rfl) ?_
    refine S.of1 (pc2 := 140) (fun Q => g_iload_n d_Br_bestFrom_139 rfl) ?_
    refine S.of1 (pc2 := 141) (fun Q => g_iload_n d_Br_bestFrom_140 rfl) ?_
    refine S.of1 (pc2 := 143) (fun Q => g_iload d_Br_bestFrom_141 rfl) ?_
    refine S.of1 (pc2 := 145) (fun Q => g_iload d_Br_bestFrom_143 rfl) ?_
    refine S.of1 (pc2 := 148) (fun Q => g_mmin w_946 w_600 w_91 wc_min (by omega) (Nat.le_of_ble_eq_true rfl) d_Br_bestFrom_145) ?_
    refine S.call_wI (pc3 := 151) rfl (co_Br_bestBuying D hD kbestFrom hkbestFrom (d - 1) (by omega) v6 v1 v2 v3 (gmin v4 v5) σ) (fun Q => g_callV (M2 := m_Br_bestBuying) (vs := [.int v6, .int v1, .int v2, .int v3, .int (gmin v4 v5)]) (st := []) lv_RX0_99 gk_18 rfl rfl (Nat.le_of_ble_eq_true rfl) (by omega) (Nat.le_of_ble_eq_true rfl) rfl d_Br_bestFrom_148) (fun q10 => ?_)
    exact S.wk (L2 := [some (.ref 18), some (.int v1), some (.int v2), some (.int v3), some (.int v4), some (.int v5), some (.int v6), some (.int v7), none]) (And.intro rfl (And.intro rfl (And.intro rfl (And.intro rfl (And.intro rfl (And.intro rfl (And.intro rfl (And.intro rfl trivial)))))))) (s_Br_bestFrom_j151 D hD kbestFrom hkbestFrom d hd k47 hk47 v1 v2 v3 v4 v5 v6 v7 q10.1 q10.2)
  · refine S.of1 (pc2 := 117) (fun Q => g_aload_n d_Br_bestFrom_116 rfl) ?_
    refine S.of1 (pc2 := 119) (fun Q => g_iload d_Br_bestFrom_117 rfl) ?_
    refine S.of1 (pc2 := 120) (fun Q => g_iload_n d_Br_bestFrom_119 rfl) ?_
    refine S.of1 (pc2 := 121) (fun Q => g_iload_n d_Br_bestFrom_120 rfl) ?_
    refine S.of1 (pc2 := 122) (fun Q => g_iload_n d_Br_bestFrom_121 rfl) ?_
    refine S.of1 (pc2 := 124) (fun Q => g_iload d_Br_bestFrom_122 rfl) ?_
    refine S.of1 (pc2 := 127) (fun Q => g_mmax w_941 w_597 w_91 wc_max (by omega) (Nat.le_of_ble_eq_true rfl) d_Br_bestFrom_124) ?_
    refine S.of1 (pc2 := 129) (fun Q => g_iload d_Br_bestFrom_127 rfl) ?_
    refine S.call_wI (pc3 := 132) rfl (co_Br_bestBuying D hD kbestFrom hkbestFrom (d - 1) (by omega) v6 v1 v2 (gmax v3 v5) v4 σ) (fun Q => g_callV (M2 := m_Br_bestBuying) (vs := [.int v6, .int v1, .int v2, .int (gmax v3 v5), .int v4]) (st := []) lv_RX0_99 gk_18 rfl rfl (Nat.le_of_ble_eq_true rfl) (by omega) (Nat.le_of_ble_eq_true rfl) rfl d_Br_bestFrom_129) (fun q16 => ?_)
    refine S.of1 (pc2 := 151) (fun Q => g_goto d_Br_bestFrom_132 rfl) ?_
    exact S.wk (L2 := [some (.ref 18), some (.int v1), some (.int v2), some (.int v3), some (.int v4), some (.int v5), some (.int v6), some (.int v7), none]) (And.intro rfl (And.intro rfl (And.intro rfl (And.intro rfl (And.intro rfl (And.intro rfl (And.intro rfl (And.intro rfl trivial)))))))) (s_Br_bestFrom_j151 D hD kbestFrom hkbestFrom d hd k47 hk47 v1 v2 v3 v4 v5 v6 v7 q16.1 q16.2)
def f_Br_bestFrom_j85 (kbestFrom : Int32 → Int32 → Int32 → Int32 → gS → Option (Int32 × gS)) (k47 : Int32 → Int32 → Int32 → Int32 → Int32 → Int32 → gS → Option (Int32 × gS)) (v1 : Int32) (v2 : Int32) (v3 : Int32) (v4 : Int32) (v5 : Int32) (v6 : Int32) (s0 : Int32) (σ : gS) : Option (Int32 × gS) :=
  if s0 = 0 then if v3 < v5 then f_Br_bestFrom_j111 kbestFrom k47 v1 v2 v3 v4 v5 v6 s0 σ else some (v5, σ) else if v5 < v4 then f_Br_bestFrom_j111 kbestFrom k47 v1 v2 v3 v4 v5 v6 s0 σ else some (v5, σ)
theorem s_Br_bestFrom_j85 (D : Nat) (hD : 2 ≤ D) (kbestFrom : Int32 → Int32 → Int32 → Int32 → gS → Option (Int32 × gS)) (hkbestFrom : ∀ (d : Nat) (_ : D ≤ d) (v1 : Int32) (v2 : Int32) (v3 : Int32) (v4 : Int32) (σ : gS), C wI d m_Br_bestFrom [.ref 18, .int v1, .int v2, .int v3, .int v4] σ (kbestFrom v1 v2 v3 v4 σ)) (d : Nat) (hd : D + 2 ≤ d) (k47 : Int32 → Int32 → Int32 → Int32 → Int32 → Int32 → gS → Option (Int32 × gS)) (hk47 : ∀ (v1 : Int32) (v2 : Int32) (v3 : Int32) (v4 : Int32) (v5 : Int32) (v6 : Int32) (τ : gS), S wI m_Br_bestFrom d 47 [some (.ref 18), some (.int v1), some (.int v2), some (.int v3), some (.int v4), some (.int v5), some (.int v6), none, none] [] τ (k47 v1 v2 v3 v4 v5 v6 τ)) (v1 : Int32) (v2 : Int32) (v3 : Int32) (v4 : Int32) (v5 : Int32) (v6 : Int32) (s0 : Int32) (σ : gS) : S wI m_Br_bestFrom d 85 [some (.ref 18), some (.int v1), some (.int v2), some (.int v3), some (.int v4), some (.int v5), some (.int v6), none, none] [.int s0] σ (f_Br_bestFrom_j85 kbestFrom k47 v1 v2 v3 v4 v5 v6 s0 σ) := by
  unfold f_Br_bestFrom_j85
  refine S.of1 (pc2 := 87) (L2 := [some (.ref 18), some (.int v1), some (.int v2), some (.int v3), some (.int v4), some (.int v5), some (.int v6), some (.int s0), none]) (fun Q => g_istore d_Br_bestFrom_85 (Nat.le_of_ble_eq_true rfl) rfl) ?_
  refine S.of1 (pc2 := 89) (fun Q => g_iload d_Br_bestFrom_87 rfl) ?_
  refine S.br (c := s0 = 0) (t := 102) (e := 92) (fun Q kt kf => g_if_eq d_Br_bestFrom_89 rfl kt kf) (fun h7 => ?_) (fun h7 => ?_)
  · refine S.of1 (pc2 := 104) (fun Q => g_iload d_Br_bestFrom_102 rfl) ?_
    refine S.of1 (pc2 := 105) (fun Q => g_iload_n d_Br_bestFrom_104 rfl) ?_
    refine S.br (c := v3 < v5) (t := 111) (e := 108) (fun Q kt kf => g_icmp_gt d_Br_bestFrom_105 rfl kt kf) (fun h8 => ?_) (fun h8 => ?_)
    · exact S.wk (L2 := [some (.ref 18), some (.int v1), some (.int v2), some (.int v3), some (.int v4), some (.int v5), some (.int v6), some (.int s0), none]) (And.intro rfl (And.intro rfl (And.intro rfl (And.intro rfl (And.intro rfl (And.intro rfl (And.intro rfl (And.intro rfl trivial)))))))) (s_Br_bestFrom_j111 D hD kbestFrom hkbestFrom d hd k47 hk47 v1 v2 v3 v4 v5 v6 s0 σ)
    · refine S.of1 (pc2 := 110) (fun Q => g_iload d_Br_bestFrom_108 rfl) ?_
      exact S.ret (fun Q hq => g_iret rfl d_Br_bestFrom_110 hq)
  · refine S.of1 (pc2 := 94) (fun Q => g_iload d_Br_bestFrom_92 rfl) ?_
    refine S.of1 (pc2 := 96) (fun Q => g_iload d_Br_bestFrom_94 rfl) ?_
    refine S.br (c := v5 < v4) (t := 111) (e := 99) (fun Q kt kf => g_icmp_lt d_Br_bestFrom_96 rfl kt kf) (fun h17 => ?_) (fun h17 => ?_)
    · exact S.wk (L2 := [some (.ref 18), some (.int v1), some (.int v2), some (.int v3), some (.int v4), some (.int v5), some (.int v6), some (.int s0), none]) (And.intro rfl (And.intro rfl (And.intro rfl (And.intro rfl (And.intro rfl (And.intro rfl (And.intro rfl (And.intro rfl trivial)))))))) (s_Br_bestFrom_j111 D hD kbestFrom hkbestFrom d hd k47 hk47 v1 v2 v3 v4 v5 v6 s0 σ)
    · refine S.of1 (pc2 := 108) (fun Q => g_goto d_Br_bestFrom_99 rfl) ?_
      refine S.of1 (pc2 := 110) (fun Q => g_iload d_Br_bestFrom_108 rfl) ?_
      exact S.ret (fun Q hq => g_iret rfl d_Br_bestFrom_110 hq)
def f_Br_bestFrom_L47 (kbestFrom : Int32 → Int32 → Int32 → Int32 → gS → Option (Int32 × gS)) : Nat → Int32 → Int32 → Int32 → Int32 → Int32 → Int32 → gS → Option (Int32 × gS)
  | 0, _, _, _, _, _, _, _ => none
  | n + 1, v1, v2, v3, v4, v5, v6, σ =>
  if (σ.1 19 2) ≤ v6 then some (v5, σ) else (f_T_has (σ.1 18 2) v6).bind fun q4 => if q4 = 0 then (fun v1 v2 v3 v4 v5 v6 σ => f_Br_bestFrom_L47 kbestFrom n v1 v2 v3 v4 v5 v6 σ) v1 v2 v3 v4 v5 (v6 + (1 : Int32)) σ else if (grem v1 (2 : Int32)) = 0 then f_Br_bestFrom_j85 kbestFrom (fun v1 v2 v3 v4 v5 v6 σ => f_Br_bestFrom_L47 kbestFrom n v1 v2 v3 v4 v5 v6 σ) v1 v2 v3 v4 v5 v6 (1 : Int32) σ else f_Br_bestFrom_j85 kbestFrom (fun v1 v2 v3 v4 v5 v6 σ => f_Br_bestFrom_L47 kbestFrom n v1 v2 v3 v4 v5 v6 σ) v1 v2 v3 v4 v5 v6 (0 : Int32) σ
theorem s_Br_bestFrom_L47 (D : Nat) (hD : 2 ≤ D) (kbestFrom : Int32 → Int32 → Int32 → Int32 → gS → Option (Int32 × gS)) (hkbestFrom : ∀ (d : Nat) (_ : D ≤ d) (v1 : Int32) (v2 : Int32) (v3 : Int32) (v4 : Int32) (σ : gS), C wI d m_Br_bestFrom [.ref 18, .int v1, .int v2, .int v3, .int v4] σ (kbestFrom v1 v2 v3 v4 σ)) (d : Nat) (hd : D + 2 ≤ d) : ∀ (n : Nat) (v1 : Int32) (v2 : Int32) (v3 : Int32) (v4 : Int32) (v5 : Int32) (v6 : Int32) (σ : gS), S wI m_Br_bestFrom d 47 [some (.ref 18), some (.int v1), some (.int v2), some (.int v3), some (.int v4), some (.int v5), some (.int v6), none, none] [] σ (f_Br_bestFrom_L47 kbestFrom n v1 v2 v3 v4 v5 v6 σ) := by
  intro n
  induction n with
  | zero =>
    intros
    unfold f_Br_bestFrom_L47
    exact S.no
  | succ n ih =>
    intro v1 v2 v3 v4 v5 v6 σ
    unfold f_Br_bestFrom_L47
    refine S.of1 (pc2 := 49) (fun Q => g_iload d_Br_bestFrom_47 rfl) ?_
    refine S.of1 (pc2 := 50) (fun Q => g_aload_n d_Br_bestFrom_49 rfl) ?_
    refine S.of1 (pc2 := 53) (fun Q => g_getr fl_RX0_12 gc_18_0 d_Br_bestFrom_50) ?_
    refine S.of1 (pc2 := 56) (fun Q => g_geti fl_RX0_30 gc_19_2 d_Br_bestFrom_53) ?_
    refine S.br (c := (σ.1 19 2) ≤ v6) (t := 202) (e := 59) (fun Q kt kf => g_icmp_ge d_Br_bestFrom_56 rfl kt kf) (fun h3 => ?_) (fun h3 => ?_)
    · refine S.of1 (pc2 := 204) (fun Q => g_iload d_Br_bestFrom_202 rfl) ?_
      exact S.ret (fun Q hq => g_iret rfl d_Br_bestFrom_204 hq)
    · refine S.of1 (pc2 := 60) (fun Q => g_aload_n d_Br_bestFrom_59 rfl) ?_
      refine S.of1 (pc2 := 63) (fun Q => g_geti fl_RX0_26 gc_18_2 d_Br_bestFrom_60) ?_
      refine S.of1 (pc2 := 65) (fun Q => g_iload d_Br_bestFrom_63 rfl) ?_
      refine S.call_rI (pc3 := 68) rfl (c_T_has (d - 1) (by omega) (σ.1 18 2) v6 σ) (fun Q => g_callSN (M2 := m_T_has) (vs := [.int (σ.1 18 2), .int v6]) (st := []) ln_RX0_91 rfl (Nat.le_of_ble_eq_true rfl) (by omega) (Nat.le_of_ble_eq_true rfl) rfl d_Br_bestFrom_65) (fun q4 => ?_)
      refine S.br (c := q4 = 0) (t := 71) (e := 74) (fun Q kt kf => g_if_ne d_Br_bestFrom_68 rfl kf kt) (fun h5 => ?_) (fun h5 => ?_)
      · refine S.of1 (pc2 := 196) (fun Q => g_goto d_Br_bestFrom_71 rfl) ?_
        refine S.of1 (pc2 := 199) (L2 := [some (.ref 18), some (.int v1), some (.int v2), some (.int v3), some (.int v4), some (.int v5), some (.int (v6 + (1 : Int32))), none, none]) (fun Q => g_iinc d_Br_bestFrom_196 rfl (congrArg (fun z => v6 + z) (by decide)) (Nat.le_of_ble_eq_true rfl) rfl) ?_
        refine S.of1 (pc2 := 47) (fun Q => g_goto d_Br_bestFrom_199 rfl) ?_
        exact S.wk (L2 := [some (.ref 18), some (.int v1), some (.int v2), some (.int v3), some (.int v4), some (.int v5), some (.int (v6 + (1 : Int32))), none, none]) (And.intro rfl (And.intro rfl (And.intro rfl (And.intro rfl (And.intro rfl (And.intro rfl (And.intro rfl trivial))))))) (ih v1 v2 v3 v4 v5 (v6 + (1 : Int32)) σ)
      · refine S.of1 (pc2 := 75) (fun Q => g_iload_n d_Br_bestFrom_74 rfl) ?_
        refine S.of1 (pc2 := 76) (fun Q => g_iconst (v := (2 : Int32)) d_Br_bestFrom_75 (by decide)) ?_
        refine S.of1 (pc2 := 77) (fun Q => g_irem d_Br_bestFrom_76 (by decide)) ?_
        refine S.br (c := (grem v1 (2 : Int32)) = 0) (t := 80) (e := 84) (fun Q kt kf => g_if_ne d_Br_bestFrom_77 rfl kf kt) (fun h6 => ?_) (fun h6 => ?_)
        · refine S.of1 (pc2 := 81) (fun Q => g_iconst (v := (1 : Int32)) d_Br_bestFrom_80 (by decide)) ?_
          refine S.of1 (pc2 := 85) (fun Q => g_goto d_Br_bestFrom_81 rfl) ?_
          exact S.wk (L2 := [some (.ref 18), some (.int v1), some (.int v2), some (.int v3), some (.int v4), some (.int v5), some (.int v6), none, none]) (And.intro rfl (And.intro rfl (And.intro rfl (And.intro rfl (And.intro rfl (And.intro rfl (And.intro rfl trivial))))))) (s_Br_bestFrom_j85 D hD kbestFrom hkbestFrom d hd (fun v1 v2 v3 v4 v5 v6 σ => f_Br_bestFrom_L47 kbestFrom n v1 v2 v3 v4 v5 v6 σ) (fun v1 v2 v3 v4 v5 v6 τ => ih v1 v2 v3 v4 v5 v6 τ) v1 v2 v3 v4 v5 v6 (1 : Int32) σ)
        · refine S.of1 (pc2 := 85) (fun Q => g_iconst (v := (0 : Int32)) d_Br_bestFrom_84 (by decide)) ?_
          exact S.wk (L2 := [some (.ref 18), some (.int v1), some (.int v2), some (.int v3), some (.int v4), some (.int v5), some (.int v6), none, none]) (And.intro rfl (And.intro rfl (And.intro rfl (And.intro rfl (And.intro rfl (And.intro rfl (And.intro rfl trivial))))))) (s_Br_bestFrom_j85 D hD kbestFrom hkbestFrom d hd (fun v1 v2 v3 v4 v5 v6 σ => f_Br_bestFrom_L47 kbestFrom n v1 v2 v3 v4 v5 v6 σ) (fun v1 v2 v3 v4 v5 v6 τ => ih v1 v2 v3 v4 v5 v6 τ) v1 v2 v3 v4 v5 v6 (0 : Int32) σ)
def fo_Br_bestFrom (kbestFrom : Int32 → Int32 → Int32 → Int32 → gS → Option (Int32 × gS)) (v1 : Int32) (v2 : Int32) (v3 : Int32) (v4 : Int32) (σ : gS) : Option (Int32 × gS) :=
  if v1 < (σ.1 18 4) then (kbestFrom (v1 + (1 : Int32)) v2 v3 v4 σ).bind fun q2 => f_Br_bestFrom_L47 kbestFrom gfu v1 v2 v3 v4 q2.1 (0 : Int32) q2.2 else (f_Cr_happensOn 19 (σ.1 18 3) σ).bind fun q18 => if q18 = 0 then some ((v2 + (0 : Int32)), σ) else some ((v2 + (100 : Int32)), σ)
theorem co_Br_bestFrom (D : Nat) (hD : 2 ≤ D) (kbestFrom : Int32 → Int32 → Int32 → Int32 → gS → Option (Int32 × gS)) (hkbestFrom : ∀ (d : Nat) (_ : D ≤ d) (v1 : Int32) (v2 : Int32) (v3 : Int32) (v4 : Int32) (σ : gS), C wI d m_Br_bestFrom [.ref 18, .int v1, .int v2, .int v3, .int v4] σ (kbestFrom v1 v2 v3 v4 σ)) (d : Nat) (hd : D + 2 ≤ d) (v1 : Int32) (v2 : Int32) (v3 : Int32) (v4 : Int32) (σ : gS) : C wI d m_Br_bestFrom [.ref 18, .int v1, .int v2, .int v3, .int v4] σ (fo_Br_bestFrom kbestFrom v1 v2 v3 v4 σ) := by
  unfold fo_Br_bestFrom
  refine C.of (by decide +kernel) (Nat.le_of_ble_eq_true rfl) (L := [some (.ref 18), some (.int v1), some (.int v2), some (.int v3), some (.int v4), none, none, none, none]) rfl ?_
  refine S.of1 (pc2 := 1) (fun Q => g_iload_n d_Br_bestFrom_0 rfl) ?_
  refine S.of1 (pc2 := 2) (fun Q => g_aload_n d_Br_bestFrom_1 rfl) ?_
  refine S.of1 (pc2 := 5) (fun Q => g_geti fl_RX0_77 gc_18_4 d_Br_bestFrom_2) ?_
  refine S.br (c := v1 < (σ.1 18 4)) (t := 31) (e := 8) (fun Q kt kf => g_icmp_lt d_Br_bestFrom_5 rfl kt kf) (fun h1 => ?_) (fun h1 => ?_)
  · refine S.of1 (pc2 := 32) (fun Q => g_aload_n d_Br_bestFrom_31 rfl) ?_
    refine S.of1 (pc2 := 33) (fun Q => g_iload_n d_Br_bestFrom_32 rfl) ?_
    refine S.of1 (pc2 := 34) (fun Q => g_iconst (v := (1 : Int32)) d_Br_bestFrom_33 (by decide)) ?_
    refine S.of1 (pc2 := 35) (fun Q => g_iadd d_Br_bestFrom_34) ?_
    refine S.of1 (pc2 := 36) (fun Q => g_iload_n d_Br_bestFrom_35 rfl) ?_
    refine S.of1 (pc2 := 37) (fun Q => g_iload_n d_Br_bestFrom_36 rfl) ?_
    refine S.of1 (pc2 := 39) (fun Q => g_iload d_Br_bestFrom_37 rfl) ?_
    refine S.call_wI (pc3 := 42) rfl (hkbestFrom (d - 1) (by omega) (v1 + (1 : Int32)) v2 v3 v4 σ) (fun Q => g_callV (M2 := m_Br_bestFrom) (vs := [.int (v1 + (1 : Int32)), .int v2, .int v3, .int v4]) (st := []) lv_RX0_84 gk_18 rfl rfl (Nat.le_of_ble_eq_true rfl) (by omega) (Nat.le_of_ble_eq_true rfl) rfl d_Br_bestFrom_39) (fun q2 => ?_)
    refine S.of1 (pc2 := 44) (L2 := [some (.ref 18), some (.int v1), some (.int v2), some (.int v3), some (.int v4), some (.int q2.1), none, none, none]) (fun Q => g_istore d_Br_bestFrom_42 (Nat.le_of_ble_eq_true rfl) rfl) ?_
    refine S.of1 (pc2 := 45) (fun Q => g_iconst (v := (0 : Int32)) d_Br_bestFrom_44 (by decide)) ?_
    refine S.of1 (pc2 := 47) (L2 := [some (.ref 18), some (.int v1), some (.int v2), some (.int v3), some (.int v4), some (.int q2.1), some (.int (0 : Int32)), none, none]) (fun Q => g_istore d_Br_bestFrom_45 (Nat.le_of_ble_eq_true rfl) rfl) ?_
    exact S.wk (L2 := [some (.ref 18), some (.int v1), some (.int v2), some (.int v3), some (.int v4), some (.int q2.1), some (.int (0 : Int32)), none, none]) (And.intro rfl (And.intro rfl (And.intro rfl (And.intro rfl (And.intro rfl (And.intro rfl (And.intro rfl trivial))))))) (s_Br_bestFrom_L47 D hD kbestFrom hkbestFrom d hd gfu v1 v2 v3 v4 q2.1 (0 : Int32) q2.2)
  · refine S.of1 (pc2 := 9) (fun Q => g_iload_n d_Br_bestFrom_8 rfl) ?_
    refine S.of1 (pc2 := 10) (fun Q => g_aload_n d_Br_bestFrom_9 rfl) ?_
    refine S.of1 (pc2 := 13) (fun Q => g_getr fl_RX0_12 gc_18_0 d_Br_bestFrom_10) ?_
    refine S.of1 (pc2 := 14) (fun Q => g_aload_n d_Br_bestFrom_13 rfl) ?_
    refine S.of1 (pc2 := 17) (fun Q => g_geti fl_RX0_74 gc_18_3 d_Br_bestFrom_14) ?_
    refine S.call_rI (pc3 := 20) rfl (c_Cr_happensOn (d - 1) (by omega) 19 gk_19 (σ.1 18 3) σ) (fun Q => g_callV (M2 := m_Cr_happensOn) (vs := [.int (σ.1 18 3)]) (st := [.int v2]) lv_RX0_88 gk_19 rfl rfl (Nat.le_of_ble_eq_true rfl) (by omega) (Nat.le_of_ble_eq_true rfl) rfl d_Br_bestFrom_17) (fun q18 => ?_)
    refine S.br (c := q18 = 0) (t := 28) (e := 23) (fun Q kt kf => g_if_eq d_Br_bestFrom_20 rfl kt kf) (fun h19 => ?_) (fun h19 => ?_)
    · refine S.of1 (pc2 := 29) (fun Q => g_iconst (v := (0 : Int32)) d_Br_bestFrom_28 (by decide)) ?_
      refine S.of1 (pc2 := 30) (fun Q => g_iadd d_Br_bestFrom_29) ?_
      exact S.ret (fun Q hq => g_iret rfl d_Br_bestFrom_30 hq)
    · refine S.of1 (pc2 := 25) (fun Q => g_bipush (v := (100 : Int32)) d_Br_bestFrom_23 (by decide)) ?_
      refine S.of1 (pc2 := 29) (fun Q => g_goto d_Br_bestFrom_25 rfl) ?_
      refine S.of1 (pc2 := 30) (fun Q => g_iadd d_Br_bestFrom_29) ?_
      exact S.ret (fun Q hq => g_iret rfl d_Br_bestFrom_30 hq)
def f_Br_bestFrom : Nat → Int32 → Int32 → Int32 → Int32 → gS → Option (Int32 × gS)
  | 0, _, _, _, _, _ => none
  | n + 1, v1, v2, v3, v4, σ => fo_Br_bestFrom (fun v1 v2 v3 v4 σ => f_Br_bestFrom n v1 v2 v3 v4 σ) v1 v2 v3 v4 σ
theorem c_Br_bestFrom : ∀ (n d : Nat) (_ : 2 + 2 * n ≤ d) (v1 : Int32) (v2 : Int32) (v3 : Int32) (v4 : Int32) (σ : gS), C wI d m_Br_bestFrom [.ref 18, .int v1, .int v2, .int v3, .int v4] σ (f_Br_bestFrom n v1 v2 v3 v4 σ) := by
  intro n
  induction n with
  | zero =>
    intros
    unfold f_Br_bestFrom
    intro a Q h1 _
    cases h1
  | succ n ih =>
    intro d hd v1 v2 v3 v4 σ
    unfold f_Br_bestFrom
    exact co_Br_bestFrom (2 + 2 * n) (by omega) _ (fun d hd v1 v2 v3 v4 σ => ih d hd v1 v2 v3 v4 σ) d (by omega) v1 v2 v3 v4 σ
def f_Br_bestBuying (v1 : Int32) (v2 : Int32) (v3 : Int32) (v4 : Int32) (v5 : Int32) (σ : gS) : Option (Int32 × gS) := fo_Br_bestBuying (fun v1 v2 v3 v4 σ => f_Br_bestFrom 6 v1 v2 v3 v4 σ) v1 v2 v3 v4 v5 σ
theorem c_Br_bestBuying (d : Nat) (hd : 15 ≤ d) (v1 : Int32) (v2 : Int32) (v3 : Int32) (v4 : Int32) (v5 : Int32) (σ : gS) : C wI d m_Br_bestBuying [.ref 18, .int v1, .int v2, .int v3, .int v4, .int v5] σ (f_Br_bestBuying v1 v2 v3 v4 v5 σ) := by
  unfold f_Br_bestBuying
  exact co_Br_bestBuying 14 (by decide) _ (fun d hd v1 v2 v3 v4 σ => c_Br_bestFrom 6 d hd v1 v2 v3 v4 σ) d (by omega) v1 v2 v3 v4 v5 σ
def f_Br_play (v1 : Int32) (v2 : Int32) (σ : gS) : Option (Int32 × gS) :=
  gup (gpi σ 18 3 v1) fun s1 => gup (gpi s1 18 4 v2) fun s2 => gup (gpi s2 18 8 (10 : Int32)) fun s3 => (f_Br_bestFrom 6 (0 : Int32) (0 : Int32) (-1000000 : Int32) (1000000 : Int32) s3).bind fun q4 => some (q4.1, q4.2)
theorem c_Br_play (d : Nat) (hd : 15 ≤ d) (v1 : Int32) (v2 : Int32) (σ : gS) : C wI d m_Br_play [.ref 18, .int v1, .int v2] σ (f_Br_play v1 v2 σ) := by
  unfold f_Br_play
  refine C.of (by decide +kernel) (Nat.le_of_ble_eq_true rfl) (L := [some (.ref 18), some (.int v1), some (.int v2)]) rfl ?_
  refine S.of1 (pc2 := 1) (fun Q => g_aload_n d_Br_play_0 rfl) ?_
  refine S.of1 (pc2 := 2) (fun Q => g_iload_n d_Br_play_1 rfl) ?_
  refine S.of1 (pc2 := 5) (fun Q => g_puti fl_RX0_74 gc_18_3 rfl rfl d_Br_play_2) ?_
  refine S.gup (fun s1 => ?_)
  refine S.of1 (pc2 := 6) (fun Q => g_aload_n d_Br_play_5 rfl) ?_
  refine S.of1 (pc2 := 7) (fun Q => g_iload_n d_Br_play_6 rfl) ?_
  refine S.of1 (pc2 := 10) (fun Q => g_puti fl_RX0_77 gc_18_4 rfl rfl d_Br_play_7) ?_
  refine S.gup (fun s2 => ?_)
  refine S.of1 (pc2 := 11) (fun Q => g_aload_n d_Br_play_10 rfl) ?_
  refine S.of1 (pc2 := 13) (fun Q => g_bipush (v := (10 : Int32)) d_Br_play_11 (by decide)) ?_
  refine S.of1 (pc2 := 16) (fun Q => g_puti fl_RX0_80 gc_18_8 rfl rfl d_Br_play_13) ?_
  refine S.gup (fun s3 => ?_)
  refine S.of1 (pc2 := 17) (fun Q => g_aload_n d_Br_play_16 rfl) ?_
  refine S.of1 (pc2 := 18) (fun Q => g_iconst (v := (0 : Int32)) d_Br_play_17 (by decide)) ?_
  refine S.of1 (pc2 := 19) (fun Q => g_iconst (v := (0 : Int32)) d_Br_play_18 (by decide)) ?_
  refine S.of1 (pc2 := 21) (fun Q => g_ldc (v := (-1000000 : Int32)) d_Br_play_19 w_934) ?_
  refine S.of1 (pc2 := 23) (fun Q => g_ldc (v := (1000000 : Int32)) d_Br_play_21 w_795) ?_
  refine S.call_wI (pc3 := 26) rfl (c_Br_bestFrom 6 (d - 1) (by omega) (0 : Int32) (0 : Int32) (-1000000 : Int32) (1000000 : Int32) s3) (fun Q => g_callV (M2 := m_Br_bestFrom) (vs := [.int (0 : Int32), .int (0 : Int32), .int (-1000000 : Int32), .int (1000000 : Int32)]) (st := []) lv_RX0_84 gk_18 rfl rfl (Nat.le_of_ble_eq_true rfl) (by omega) (Nat.le_of_ble_eq_true rfl) rfl d_Br_play_23) (fun q4 => ?_)
  exact S.ret (fun Q hq => g_iret rfl d_Br_play_26 hq)
def f_T_byTurns (v1 : Int32) (v2 : Int32) (v3 : Int32) (σ : gS) : Option (Int32 × gS) :=
  (f_T_within v1 (6 : Int32)).bind fun q1 => if q1 = 0 then some ((-2000000000 : Int32), σ) else if v2 < (1 : Int32) then some ((-2000000000 : Int32), σ) else if (4 : Int32) < v2 then some ((-2000000000 : Int32), σ) else (f_T_within v3 (2 : Int32)).bind fun q5 => if q5 = 0 then some ((-2000000000 : Int32), σ) else (f_Br_begin σ).bind fun s7 => (f_Br_play v1 v2 s7).bind fun q8 => if v3 = 0 then some (q8.1, q8.2) else some ((q8.2.1 18 8), q8.2)
theorem c_T_byTurns (d : Nat) (hd : 16 ≤ d) (v1 : Int32) (v2 : Int32) (v3 : Int32) (σ : gS) : C wI d m_T_byTurns [.ref 0, .int v1, .int v2, .int v3] σ (f_T_byTurns v1 v2 v3 σ) := by
  unfold f_T_byTurns
  refine C.of (by decide +kernel) (Nat.le_of_ble_eq_true rfl) (L := [some (.ref 0), some (.int v1), some (.int v2), some (.int v3), none]) rfl ?_
  refine S.of1 (pc2 := 1) (fun Q => g_iload_n d_T_byTurns_0 rfl) ?_
  refine S.of1 (pc2 := 3) (fun Q => g_bipush (v := (6 : Int32)) d_T_byTurns_1 (by decide)) ?_
  refine S.call_rI (pc3 := 6) rfl (c_T_within (d - 1) (by omega) v1 (6 : Int32) σ) (fun Q => g_callS (M2 := m_T_within) (vs := [.int v1, .int (6 : Int32)]) (st := []) ls_RX10_72 rfl (Nat.le_of_ble_eq_true rfl) (by omega) (Nat.le_of_ble_eq_true rfl) rfl d_T_byTurns_3) (fun q1 => ?_)
  refine S.br (c := q1 = 0) (t := 27) (e := 9) (fun Q kt kf => g_if_eq d_T_byTurns_6 rfl kt kf) (fun h2 => ?_) (fun h2 => ?_)
  · refine S.of1 (pc2 := 29) (fun Q => g_ldc (v := (-2000000000 : Int32)) d_T_byTurns_27 w_508) ?_
    exact S.ret (fun Q hq => g_iret rfl d_T_byTurns_29 hq)
  · refine S.of1 (pc2 := 10) (fun Q => g_iload_n d_T_byTurns_9 rfl) ?_
    refine S.of1 (pc2 := 11) (fun Q => g_iconst (v := (1 : Int32)) d_T_byTurns_10 (by decide)) ?_
    refine S.br (c := v2 < (1 : Int32)) (t := 27) (e := 14) (fun Q kt kf => g_icmp_lt d_T_byTurns_11 rfl kt kf) (fun h3 => ?_) (fun h3 => ?_)
    · refine S.of1 (pc2 := 29) (fun Q => g_ldc (v := (-2000000000 : Int32)) d_T_byTurns_27 w_508) ?_
      exact S.ret (fun Q hq => g_iret rfl d_T_byTurns_29 hq)
    · refine S.of1 (pc2 := 15) (fun Q => g_iload_n d_T_byTurns_14 rfl) ?_
      refine S.of1 (pc2 := 16) (fun Q => g_iconst (v := (4 : Int32)) d_T_byTurns_15 (by decide)) ?_
      refine S.br (c := (4 : Int32) < v2) (t := 27) (e := 19) (fun Q kt kf => g_icmp_gt d_T_byTurns_16 rfl kt kf) (fun h4 => ?_) (fun h4 => ?_)
      · refine S.of1 (pc2 := 29) (fun Q => g_ldc (v := (-2000000000 : Int32)) d_T_byTurns_27 w_508) ?_
        exact S.ret (fun Q hq => g_iret rfl d_T_byTurns_29 hq)
      · refine S.of1 (pc2 := 20) (fun Q => g_iload_n d_T_byTurns_19 rfl) ?_
        refine S.of1 (pc2 := 21) (fun Q => g_iconst (v := (2 : Int32)) d_T_byTurns_20 (by decide)) ?_
        refine S.call_rI (pc3 := 24) rfl (c_T_within (d - 1) (by omega) v3 (2 : Int32) σ) (fun Q => g_callS (M2 := m_T_within) (vs := [.int v3, .int (2 : Int32)]) (st := []) ls_RX10_72 rfl (Nat.le_of_ble_eq_true rfl) (by omega) (Nat.le_of_ble_eq_true rfl) rfl d_T_byTurns_21) (fun q5 => ?_)
        refine S.br (c := q5 = 0) (t := 27) (e := 30) (fun Q kt kf => g_if_ne d_T_byTurns_24 rfl kf kt) (fun h6 => ?_) (fun h6 => ?_)
        · refine S.of1 (pc2 := 29) (fun Q => g_ldc (v := (-2000000000 : Int32)) d_T_byTurns_27 w_508) ?_
          exact S.ret (fun Q hq => g_iret rfl d_T_byTurns_29 hq)
        · refine S.of1 (pc2 := 31) (fun Q => g_aload_n d_T_byTurns_30 rfl) ?_
          refine S.of1 (pc2 := 34) (fun Q => g_getr fl_RX10_26 gc_0_2 d_T_byTurns_31) ?_
          refine S.of1 (pc2 := 35) (fun Q => g_aload_n d_T_byTurns_34 rfl) ?_
          refine S.of1 (pc2 := 38) (fun Q => g_getr fl_RX10_10 gc_0_0 d_T_byTurns_35) ?_
          refine S.call_wV (pc3 := 41) rfl (c_Br_begin (d - 1) (by omega) σ) (fun Q => g_callV (M2 := m_Br_begin) (vs := [.ref 1]) (st := []) lv_RX10_161 gk_18 rfl rfl (Nat.le_of_ble_eq_true rfl) (by omega) (Nat.le_of_ble_eq_true rfl) rfl d_T_byTurns_38) (fun s7 => ?_)
          refine S.of1 (pc2 := 42) (fun Q => g_aload_n d_T_byTurns_41 rfl) ?_
          refine S.of1 (pc2 := 45) (fun Q => g_getr fl_RX10_26 gc_0_2 d_T_byTurns_42) ?_
          refine S.of1 (pc2 := 46) (fun Q => g_iload_n d_T_byTurns_45 rfl) ?_
          refine S.of1 (pc2 := 47) (fun Q => g_iload_n d_T_byTurns_46 rfl) ?_
          refine S.call_wI (pc3 := 50) rfl (c_Br_play (d - 1) (by omega) v1 v2 s7) (fun Q => g_callV (M2 := m_Br_play) (vs := [.int v1, .int v2]) (st := []) lv_RX10_243 gk_18 rfl rfl (Nat.le_of_ble_eq_true rfl) (by omega) (Nat.le_of_ble_eq_true rfl) rfl d_T_byTurns_47) (fun q8 => ?_)
          refine S.of1 (pc2 := 52) (L2 := [some (.ref 0), some (.int v1), some (.int v2), some (.int v3), some (.int q8.1)]) (fun Q => g_istore d_T_byTurns_50 (Nat.le_of_ble_eq_true rfl) rfl) ?_
          refine S.of1 (pc2 := 53) (fun Q => g_iload_n d_T_byTurns_52 rfl) ?_
          refine S.br (c := v3 = 0) (t := 56) (e := 61) (fun Q kt kf => g_if_ne d_T_byTurns_53 rfl kf kt) (fun h9 => ?_) (fun h9 => ?_)
          · refine S.of1 (pc2 := 58) (fun Q => g_iload d_T_byTurns_56 rfl) ?_
            refine S.of1 (pc2 := 68) (fun Q => g_goto d_T_byTurns_58 rfl) ?_
            exact S.ret (fun Q hq => g_iret rfl d_T_byTurns_68 hq)
          · refine S.of1 (pc2 := 62) (fun Q => g_aload_n d_T_byTurns_61 rfl) ?_
            refine S.of1 (pc2 := 65) (fun Q => g_getr fl_RX10_26 gc_0_2 d_T_byTurns_62) ?_
            refine S.of1 (pc2 := 68) (fun Q => g_geti fl_RX10_246 gc_18_8 d_T_byTurns_65) ?_
            exact S.ret (fun Q hq => g_iret rfl d_T_byTurns_68 hq)
def f_Cr_forget (c : Nat) (σ : gS) : Option gS :=
  (f_JA_fill 240 (c + 6) (-1 : Int32) σ).bind fun s1 => some s1
theorem c_Cr_forget (d : Nat) (hd : 2 ≤ d) (c : Nat) (hc : gcls c = some 2) (σ : gS) : C wV d m_Cr_forget [.ref c] σ (f_Cr_forget c σ) := by
  unfold f_Cr_forget
  refine C.of (by decide +kernel) (Nat.le_of_ble_eq_true rfl) (L := [some (.ref c)]) rfl ?_
  refine S.of1 (pc2 := 1) (fun Q => g_aload_n d_Cr_forget_0 rfl) ?_
  refine S.of1 (pc2 := 4) (fun Q => g_getr fl_RX2_27 (gq_2_7 hc) d_Cr_forget_1) ?_
  refine S.of1 (pc2 := 5) (fun Q => g_iconst (v := (-1 : Int32)) d_Cr_forget_4 (by decide)) ?_
  refine S.call_wV (pc3 := 8) rfl (c_JA_fill (d - 1) (by omega) 240 (by decide) (c + 6) (gp_2_7 hc) (-1 : Int32) σ) (fun Q => g_callS (M2 := m_JA_fill) (vs := [.ref (c + 6), .int (-1 : Int32)]) (st := []) ls_RX2_65 rfl (Nat.le_of_ble_eq_true rfl) (by omega) (Nat.le_of_ble_eq_true rfl) rfl d_Cr_forget_5) (fun s1 => ?_)
  exact S.ret (fun Q hq => g_vret rfl d_Cr_forget_8 hq)
def f_Cr_packed_L4 (c : Nat) (σ : gS) : Nat → Int32 → Int32 → Option Int32
  | 0, _, _ => none
  | n + 1, v1, v2 =>
  if (σ.1 c 2) ≤ v2 then some v1 else if gix v2 10 then glt (v1 ||| ((σ.1 (c + 1) v2.toNatClampNeg) <<< (((3 : Int32) * v2) &&& 31))) fun x3 => (fun v1 v2 => f_Cr_packed_L4 c σ n v1 v2) x3 (v2 + (1 : Int32)) else none
theorem s_Cr_packed_L4 (d : Nat) (hd : 1 ≤ d) (c : Nat) (hc : gcls c = some 2) (σ : gS) : ∀ (n : Nat) (v1 : Int32) (v2 : Int32), S (rI σ) m_Cr_packed d 4 [some (.ref c), some (.int v1), some (.int v2)] [] σ (f_Cr_packed_L4 c σ n v1 v2) := by
  intro n
  induction n with
  | zero =>
    intros
    unfold f_Cr_packed_L4
    exact S.no
  | succ n ih =>
    intro v1 v2
    unfold f_Cr_packed_L4
    refine S.of1 (pc2 := 5) (fun Q => g_iload_n d_Cr_packed_4 rfl) ?_
    refine S.of1 (pc2 := 6) (fun Q => g_aload_n d_Cr_packed_5 rfl) ?_
    refine S.of1 (pc2 := 9) (fun Q => g_geti fl_RX2_52 (gq_2_2 hc) d_Cr_packed_6) ?_
    refine S.br (c := (σ.1 c 2) ≤ v2) (t := 31) (e := 12) (fun Q kt kf => g_icmp_ge d_Cr_packed_9 rfl kt kf) (fun h1 => ?_) (fun h1 => ?_)
    · refine S.of1 (pc2 := 32) (fun Q => g_iload_n d_Cr_packed_31 rfl) ?_
      exact S.ret (fun Q hq => g_iret rfl d_Cr_packed_32 hq)
    · refine S.of1 (pc2 := 13) (fun Q => g_iload_n d_Cr_packed_12 rfl) ?_
      refine S.of1 (pc2 := 14) (fun Q => g_aload_n d_Cr_packed_13 rfl) ?_
      refine S.of1 (pc2 := 17) (fun Q => g_getr fl_RX2_9 (gq_2_0 hc) d_Cr_packed_14) ?_
      refine S.of1 (pc2 := 18) (fun Q => g_iload_n d_Cr_packed_17 rfl) ?_
      refine S.chk (fun h2 => ?_)
      refine S.of1 (pc2 := 19) (fun Q => g_iald (gp_2_0 hc) (gix_in h2) d_Cr_packed_18) ?_
      refine S.of1 (pc2 := 20) (fun Q => g_iconst (v := (3 : Int32)) d_Cr_packed_19 (by decide)) ?_
      refine S.of1 (pc2 := 21) (fun Q => g_iload_n d_Cr_packed_20 rfl) ?_
      refine S.of1 (pc2 := 22) (fun Q => g_imul d_Cr_packed_21) ?_
      refine S.of1 (pc2 := 23) (fun Q => g_ishl d_Cr_packed_22) ?_
      refine S.of1 (pc2 := 24) (fun Q => g_ior d_Cr_packed_23) ?_
      refine S.of1 (pc2 := 25) (L2 := [some (.ref c), some (.int (v1 ||| ((σ.1 (c + 1) v2.toNatClampNeg) <<< (((3 : Int32) * v2) &&& 31)))), some (.int v2)]) (fun Q => g_istore_n d_Cr_packed_24 (Nat.le_of_ble_eq_true rfl) rfl) ?_
      refine S.glt (x := (v1 ||| ((σ.1 (c + 1) v2.toNatClampNeg) <<< (((3 : Int32) * v2) &&& 31)))) (Lf := fun y => [some (.ref c), some (.int y), some (.int v2)]) (fun x3 => ?_)
      refine S.of1 (pc2 := 28) (L2 := [some (.ref c), some (.int x3), some (.int (v2 + (1 : Int32)))]) (fun Q => g_iinc d_Cr_packed_25 rfl (congrArg (fun z => v2 + z) (by decide)) (Nat.le_of_ble_eq_true rfl) rfl) ?_
      refine S.of1 (pc2 := 4) (fun Q => g_goto d_Cr_packed_28 rfl) ?_
      exact S.wk (L2 := [some (.ref c), some (.int x3), some (.int (v2 + (1 : Int32)))]) (And.intro rfl (And.intro rfl (And.intro rfl trivial))) (ih x3 (v2 + (1 : Int32)))
def f_Cr_packed (c : Nat) (σ : gS) : Option Int32 :=
  f_Cr_packed_L4 c σ gfu (0 : Int32) (0 : Int32)
theorem c_Cr_packed (d : Nat) (hd : 1 ≤ d) (c : Nat) (hc : gcls c = some 2) (σ : gS) : C (rI σ) d m_Cr_packed [.ref c] σ (f_Cr_packed c σ) := by
  unfold f_Cr_packed
  refine C.of (by decide +kernel) (Nat.le_of_ble_eq_true rfl) (L := [some (.ref c), none, none]) rfl ?_
  refine S.of1 (pc2 := 1) (fun Q => g_iconst (v := (0 : Int32)) d_Cr_packed_0 (by decide)) ?_
  refine S.of1 (pc2 := 2) (L2 := [some (.ref c), some (.int (0 : Int32)), none]) (fun Q => g_istore_n d_Cr_packed_1 (Nat.le_of_ble_eq_true rfl) rfl) ?_
  refine S.of1 (pc2 := 3) (fun Q => g_iconst (v := (0 : Int32)) d_Cr_packed_2 (by decide)) ?_
  refine S.of1 (pc2 := 4) (L2 := [some (.ref c), some (.int (0 : Int32)), some (.int (0 : Int32))]) (fun Q => g_istore_n d_Cr_packed_3 (Nat.le_of_ble_eq_true rfl) rfl) ?_
  exact S.wk (L2 := [some (.ref c), some (.int (0 : Int32)), some (.int (0 : Int32))]) (And.intro rfl (And.intro rfl (And.intro rfl trivial))) (s_Cr_packed_L4 d hd c hc σ gfu (0 : Int32) (0 : Int32))
def f_Cr_unpack_L2 (c : Nat) : Nat → Int32 → Int32 → gS → Option gS
  | 0, _, _, _ => none
  | n + 1, v1, v2, σ =>
  if (σ.1 c 2) ≤ v2 then some σ else if gix v2 10 then gup (gpi σ (c + 1) v2.toNatClampNeg ((gush v1 ((3 : Int32) * v2)) &&& (7 : Int32))) fun s3 => (fun v1 v2 σ => f_Cr_unpack_L2 c n v1 v2 σ) v1 (v2 + (1 : Int32)) s3 else none
theorem s_Cr_unpack_L2 (d : Nat) (hd : 1 ≤ d) (c : Nat) (hc : gcls c = some 2) : ∀ (n : Nat) (v1 : Int32) (v2 : Int32) (σ : gS), S wV m_Cr_unpack d 2 [some (.ref c), some (.int v1), some (.int v2)] [] σ (f_Cr_unpack_L2 c n v1 v2 σ) := by
  intro n
  induction n with
  | zero =>
    intros
    unfold f_Cr_unpack_L2
    exact S.no
  | succ n ih =>
    intro v1 v2 σ
    unfold f_Cr_unpack_L2
    refine S.of1 (pc2 := 3) (fun Q => g_iload_n d_Cr_unpack_2 rfl) ?_
    refine S.of1 (pc2 := 4) (fun Q => g_aload_n d_Cr_unpack_3 rfl) ?_
    refine S.of1 (pc2 := 7) (fun Q => g_geti fl_RX2_52 (gq_2_2 hc) d_Cr_unpack_4) ?_
    refine S.br (c := (σ.1 c 2) ≤ v2) (t := 30) (e := 10) (fun Q kt kf => g_icmp_ge d_Cr_unpack_7 rfl kt kf) (fun h1 => ?_) (fun h1 => ?_)
    · exact S.ret (fun Q hq => g_vret rfl d_Cr_unpack_30 hq)
    · refine S.of1 (pc2 := 11) (fun Q => g_aload_n d_Cr_unpack_10 rfl) ?_
      refine S.of1 (pc2 := 14) (fun Q => g_getr fl_RX2_9 (gq_2_0 hc) d_Cr_unpack_11) ?_
      refine S.of1 (pc2 := 15) (fun Q => g_iload_n d_Cr_unpack_14 rfl) ?_
      refine S.of1 (pc2 := 16) (fun Q => g_iload_n d_Cr_unpack_15 rfl) ?_
      refine S.of1 (pc2 := 17) (fun Q => g_iconst (v := (3 : Int32)) d_Cr_unpack_16 (by decide)) ?_
      refine S.of1 (pc2 := 18) (fun Q => g_iload_n d_Cr_unpack_17 rfl) ?_
      refine S.of1 (pc2 := 19) (fun Q => g_imul d_Cr_unpack_18) ?_
      refine S.of1 (pc2 := 20) (fun Q => g_iushr d_Cr_unpack_19) ?_
      refine S.of1 (pc2 := 22) (fun Q => g_bipush (v := (7 : Int32)) d_Cr_unpack_20 (by decide)) ?_
      refine S.of1 (pc2 := 23) (fun Q => g_iand d_Cr_unpack_22) ?_
      refine S.chk (fun h2 => ?_)
      refine S.of1 (pc2 := 24) (fun Q => g_iast (gp_2_0 hc) (gix_in h2) d_Cr_unpack_23) ?_
      refine S.gup (fun s3 => ?_)
      refine S.of1 (pc2 := 27) (L2 := [some (.ref c), some (.int v1), some (.int (v2 + (1 : Int32)))]) (fun Q => g_iinc d_Cr_unpack_24 rfl (congrArg (fun z => v2 + z) (by decide)) (Nat.le_of_ble_eq_true rfl) rfl) ?_
      refine S.of1 (pc2 := 2) (fun Q => g_goto d_Cr_unpack_27 rfl) ?_
      exact S.wk (L2 := [some (.ref c), some (.int v1), some (.int (v2 + (1 : Int32)))]) (And.intro rfl (And.intro rfl (And.intro rfl trivial))) (ih v1 (v2 + (1 : Int32)) s3)
def f_Cr_unpack (c : Nat) (v1 : Int32) (σ : gS) : Option gS :=
  f_Cr_unpack_L2 c gfu v1 (0 : Int32) σ
theorem c_Cr_unpack (d : Nat) (hd : 1 ≤ d) (c : Nat) (hc : gcls c = some 2) (v1 : Int32) (σ : gS) : C wV d m_Cr_unpack [.ref c, .int v1] σ (f_Cr_unpack c v1 σ) := by
  unfold f_Cr_unpack
  refine C.of (by decide +kernel) (Nat.le_of_ble_eq_true rfl) (L := [some (.ref c), some (.int v1), none]) rfl ?_
  refine S.of1 (pc2 := 1) (fun Q => g_iconst (v := (0 : Int32)) d_Cr_unpack_0 (by decide)) ?_
  refine S.of1 (pc2 := 2) (L2 := [some (.ref c), some (.int v1), some (.int (0 : Int32))]) (fun Q => g_istore_n d_Cr_unpack_1 (Nat.le_of_ble_eq_true rfl) rfl) ?_
  exact S.wk (L2 := [some (.ref c), some (.int v1), some (.int (0 : Int32))]) (And.intro rfl (And.intro rfl (And.intro rfl trivial))) (s_Cr_unpack_L2 d hd c hc gfu v1 (0 : Int32) σ)
def f_Cr_gatherAgain_j20 (c : Nat) (v2 : Int32) (v3 : Int32) (s0 : Int32) (σ : gS) : Option gS :=
  (f_T_within v2 (6 : Int32)).bind fun q2 => if q2 = 0 then some σ else (f_T_within s0 (40 : Int32)).bind fun q4 => if q4 = 0 then some σ else glt ((v2 * (40 : Int32)) + s0) fun x6 => if gix x6 240 then if (σ.1 (c + 6) x6.toNatClampNeg) = (-1 : Int32) then (f_Cr_gather c v2 v3 σ).bind fun s9 => (f_Cr_packed c s9).bind fun q10 => if gix x6 240 then gup (gpi s9 (c + 6) x6.toNatClampNeg q10) fun s12 => some s12 else none else if gix x6 240 then (f_Cr_unpack c (σ.1 (c + 6) x6.toNatClampNeg) σ).bind fun s14 => some s14 else none else none
theorem s_Cr_gatherAgain_j20 (d : Nat) (hd : 5 ≤ d) (c : Nat) (hc : gcls c = some 2) (v2 : Int32) (v3 : Int32) (s0 : Int32) (σ : gS) : S wV m_Cr_gatherAgain d 20 [some (.ref c), some (.ref 1), some (.int v2), some (.int v3), none, none] [.int s0] σ (f_Cr_gatherAgain_j20 c v2 v3 s0 σ) := by
  unfold f_Cr_gatherAgain_j20
  refine S.of1 (pc2 := 22) (L2 := [some (.ref c), some (.ref 1), some (.int v2), some (.int v3), some (.int s0), none]) (fun Q => g_istore d_Cr_gatherAgain_20 (Nat.le_of_ble_eq_true rfl) rfl) ?_
  refine S.of1 (pc2 := 23) (fun Q => g_iload_n d_Cr_gatherAgain_22 rfl) ?_
  refine S.of1 (pc2 := 25) (fun Q => g_bipush (v := (6 : Int32)) d_Cr_gatherAgain_23 (by decide)) ?_
  refine S.call_rI (pc3 := 28) rfl (c_T_within (d - 1) (by omega) v2 (6 : Int32) σ) (fun Q => g_callSN (M2 := m_T_within) (vs := [.int v2, .int (6 : Int32)]) (st := []) ln_RX2_81 rfl (Nat.le_of_ble_eq_true rfl) (by omega) (Nat.le_of_ble_eq_true rfl) rfl d_Cr_gatherAgain_25) (fun q2 => ?_)
  refine S.br (c := q2 = 0) (t := 41) (e := 31) (fun Q kt kf => g_if_eq d_Cr_gatherAgain_28 rfl kt kf) (fun h3 => ?_) (fun h3 => ?_)
  · exact S.ret (fun Q hq => g_vret rfl d_Cr_gatherAgain_41 hq)
  · refine S.of1 (pc2 := 33) (fun Q => g_iload d_Cr_gatherAgain_31 rfl) ?_
    refine S.of1 (pc2 := 35) (fun Q => g_bipush (v := (40 : Int32)) d_Cr_gatherAgain_33 (by decide)) ?_
    refine S.call_rI (pc3 := 38) rfl (c_T_within (d - 1) (by omega) s0 (40 : Int32) σ) (fun Q => g_callSN (M2 := m_T_within) (vs := [.int s0, .int (40 : Int32)]) (st := []) ln_RX2_81 rfl (Nat.le_of_ble_eq_true rfl) (by omega) (Nat.le_of_ble_eq_true rfl) rfl d_Cr_gatherAgain_35) (fun q4 => ?_)
    refine S.br (c := q4 = 0) (t := 41) (e := 42) (fun Q kt kf => g_if_ne d_Cr_gatherAgain_38 rfl kf kt) (fun h5 => ?_) (fun h5 => ?_)
    · exact S.ret (fun Q hq => g_vret rfl d_Cr_gatherAgain_41 hq)
    · refine S.of1 (pc2 := 43) (fun Q => g_iload_n d_Cr_gatherAgain_42 rfl) ?_
      refine S.of1 (pc2 := 45) (fun Q => g_bipush (v := (40 : Int32)) d_Cr_gatherAgain_43 (by decide)) ?_
      refine S.of1 (pc2 := 46) (fun Q => g_imul d_Cr_gatherAgain_45) ?_
      refine S.of1 (pc2 := 48) (fun Q => g_iload d_Cr_gatherAgain_46 rfl) ?_
      refine S.of1 (pc2 := 49) (fun Q => g_iadd d_Cr_gatherAgain_48) ?_
      refine S.of1 (pc2 := 51) (L2 := [some (.ref c), some (.ref 1), some (.int v2), some (.int v3), some (.int s0), some (.int ((v2 * (40 : Int32)) + s0))]) (fun Q => g_istore d_Cr_gatherAgain_49 (Nat.le_of_ble_eq_true rfl) rfl) ?_
      refine S.glt (x := ((v2 * (40 : Int32)) + s0)) (Lf := fun y => [some (.ref c), some (.ref 1), some (.int v2), some (.int v3), some (.int s0), some (.int y)]) (fun x6 => ?_)
      refine S.of1 (pc2 := 52) (fun Q => g_aload_n d_Cr_gatherAgain_51 rfl) ?_
      refine S.of1 (pc2 := 55) (fun Q => g_getr fl_RX2_27 (gq_2_7 hc) d_Cr_gatherAgain_52) ?_
      refine S.of1 (pc2 := 57) (fun Q => g_iload d_Cr_gatherAgain_55 rfl) ?_
      refine S.chk (fun h7 => ?_)
      refine S.of1 (pc2 := 58) (fun Q => g_iald (gp_2_7 hc) (gix_in h7) d_Cr_gatherAgain_57) ?_
      refine S.of1 (pc2 := 59) (fun Q => g_iconst (v := (-1 : Int32)) d_Cr_gatherAgain_58 (by decide)) ?_
      refine S.br (c := (σ.1 (c + 6) x6.toNatClampNeg) = (-1 : Int32)) (t := 74) (e := 62) (fun Q kt kf => g_icmp_eq d_Cr_gatherAgain_59 rfl kt kf) (fun h8 => ?_) (fun h8 => ?_)
      · refine S.of1 (pc2 := 75) (fun Q => g_aload_n d_Cr_gatherAgain_74 rfl) ?_
        refine S.of1 (pc2 := 76) (fun Q => g_aload_n d_Cr_gatherAgain_75 rfl) ?_
        refine S.of1 (pc2 := 77) (fun Q => g_iload_n d_Cr_gatherAgain_76 rfl) ?_
        refine S.of1 (pc2 := 78) (fun Q => g_iload_n d_Cr_gatherAgain_77 rfl) ?_
        refine S.call_wV (pc3 := 81) rfl (c_Cr_gather (d - 1) (by omega) c hc v2 v3 σ) (fun Q => g_callV (M2 := m_Cr_gather) (vs := [.ref 1, .int v2, .int v3]) (st := []) lv_RX2_39 hc rfl rfl (Nat.le_of_ble_eq_true rfl) (by omega) (Nat.le_of_ble_eq_true rfl) rfl d_Cr_gatherAgain_78) (fun s9 => ?_)
        refine S.of1 (pc2 := 82) (fun Q => g_aload_n d_Cr_gatherAgain_81 rfl) ?_
        refine S.of1 (pc2 := 85) (fun Q => g_getr fl_RX2_27 (gq_2_7 hc) d_Cr_gatherAgain_82) ?_
        refine S.of1 (pc2 := 87) (fun Q => g_iload d_Cr_gatherAgain_85 rfl) ?_
        refine S.of1 (pc2 := 88) (fun Q => g_aload_n d_Cr_gatherAgain_87 rfl) ?_
        refine S.call_rI (pc3 := 91) rfl (c_Cr_packed (d - 1) (by omega) c hc s9) (fun Q => g_callV (M2 := m_Cr_packed) (vs := []) (st := [.int x6, .ref (c + 6)]) lv_RX2_89 hc rfl rfl (Nat.le_of_ble_eq_true rfl) (by omega) (Nat.le_of_ble_eq_true rfl) rfl d_Cr_gatherAgain_88) (fun q10 => ?_)
        refine S.chk (fun h11 => ?_)
        refine S.of1 (pc2 := 92) (fun Q => g_iast (gp_2_7 hc) (gix_in h11) d_Cr_gatherAgain_91) ?_
        refine S.gup (fun s12 => ?_)
        exact S.ret (fun Q hq => g_vret rfl d_Cr_gatherAgain_92 hq)
      · refine S.of1 (pc2 := 63) (fun Q => g_aload_n d_Cr_gatherAgain_62 rfl) ?_
        refine S.of1 (pc2 := 64) (fun Q => g_aload_n d_Cr_gatherAgain_63 rfl) ?_
        refine S.of1 (pc2 := 67) (fun Q => g_getr fl_RX2_27 (gq_2_7 hc) d_Cr_gatherAgain_64) ?_
        refine S.of1 (pc2 := 69) (fun Q => g_iload d_Cr_gatherAgain_67 rfl) ?_
        refine S.chk (fun h13 => ?_)
        refine S.of1 (pc2 := 70) (fun Q => g_iald (gp_2_7 hc) (gix_in h13) d_Cr_gatherAgain_69) ?_
        refine S.call_wV (pc3 := 73) rfl (c_Cr_unpack (d - 1) (by omega) c hc (σ.1 (c + 6) x6.toNatClampNeg) σ) (fun Q => g_callV (M2 := m_Cr_unpack) (vs := [.int (σ.1 (c + 6) x6.toNatClampNeg)]) (st := []) lv_RX2_85 hc rfl rfl (Nat.le_of_ble_eq_true rfl) (by omega) (Nat.le_of_ble_eq_true rfl) rfl d_Cr_gatherAgain_70) (fun s14 => ?_)
        exact S.ret (fun Q hq => g_vret rfl d_Cr_gatherAgain_73 hq)
def f_Cr_gatherAgain (c : Nat) (v2 : Int32) (v3 : Int32) (σ : gS) : Option gS :=
  if (σ.1 6 5) = 0 then f_Cr_gatherAgain_j20 c v2 v3 (0 : Int32) σ else f_Cr_gatherAgain_j20 c v2 v3 (v3 - (σ.1 1 9)) σ
theorem c_Cr_gatherAgain (d : Nat) (hd : 5 ≤ d) (c : Nat) (hc : gcls c = some 2) (v2 : Int32) (v3 : Int32) (σ : gS) : C wV d m_Cr_gatherAgain [.ref c, .ref 1, .int v2, .int v3] σ (f_Cr_gatherAgain c v2 v3 σ) := by
  unfold f_Cr_gatherAgain
  refine C.of (by decide +kernel) (Nat.le_of_ble_eq_true rfl) (L := [some (.ref c), some (.ref 1), some (.int v2), some (.int v3), none, none]) rfl ?_
  refine S.of1 (pc2 := 1) (fun Q => g_aload_n d_Cr_gatherAgain_0 rfl) ?_
  refine S.of1 (pc2 := 4) (fun Q => g_getr fl_RX2_71 gc_1_4 d_Cr_gatherAgain_1) ?_
  refine S.of1 (pc2 := 7) (fun Q => g_geti fl_RX2_75 gc_6_5 d_Cr_gatherAgain_4) ?_
  refine S.br (c := (σ.1 6 5) = 0) (t := 19) (e := 10) (fun Q kt kf => g_if_eq d_Cr_gatherAgain_7 rfl kt kf) (fun h1 => ?_) (fun h1 => ?_)
  · refine S.of1 (pc2 := 20) (fun Q => g_iconst (v := (0 : Int32)) d_Cr_gatherAgain_19 (by decide)) ?_
    exact S.wk (L2 := [some (.ref c), some (.ref 1), some (.int v2), some (.int v3), none, none]) (And.intro rfl (And.intro rfl (And.intro rfl (And.intro rfl trivial)))) (s_Cr_gatherAgain_j20 d hd c hc v2 v3 (0 : Int32) σ)
  · refine S.of1 (pc2 := 11) (fun Q => g_iload_n d_Cr_gatherAgain_10 rfl) ?_
    refine S.of1 (pc2 := 12) (fun Q => g_aload_n d_Cr_gatherAgain_11 rfl) ?_
    refine S.of1 (pc2 := 15) (fun Q => g_geti fl_RX2_36 gc_1_9 d_Cr_gatherAgain_12) ?_
    refine S.of1 (pc2 := 16) (fun Q => g_isub d_Cr_gatherAgain_15) ?_
    refine S.of1 (pc2 := 20) (fun Q => g_goto d_Cr_gatherAgain_16 rfl) ?_
    exact S.wk (L2 := [some (.ref c), some (.ref 1), some (.int v2), some (.int v3), none, none]) (And.intro rfl (And.intro rfl (And.intro rfl (And.intro rfl trivial)))) (s_Cr_gatherAgain_j20 d hd c hc v2 v3 (v3 - (σ.1 1 9)) σ)
