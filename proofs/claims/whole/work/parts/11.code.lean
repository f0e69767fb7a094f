def f_Cr_agreeing_j39 (c : Nat) (σ : gS) (k4 : Int32 → Int32 → Option Int32) (k16 : Int32 → Int32 → Int32 → Option Int32) (v2 : Int32) (v3 : Int32) (s0 : Int32) (s1 : Int32) : Option Int32 :=
  k16 (s1 + s0) v2 (v3 + (1 : Int32))
theorem s_Cr_agreeing_j39 (d : Nat) (hd : 3 ≤ d) (c : Nat) (hc : gcls c = some 2) (σ : gS) (k4 : Int32 → Int32 → Option Int32) (hk4 : ∀ (v1 : Int32) (v2 : Int32), S (rI σ) m_Cr_agreeing d 4 [some (.ref c), some (.int v1), some (.int v2), none] [] σ (k4 v1 v2)) (k16 : Int32 → Int32 → Int32 → Option Int32) (hk16 : ∀ (v1 : Int32) (v2 : Int32) (v3 : Int32), S (rI σ) m_Cr_agreeing d 16 [some (.ref c), some (.int v1), some (.int v2), some (.int v3)] [] σ (k16 v1 v2 v3)) (v2 : Int32) (v3 : Int32) (s0 : Int32) (s1 : Int32) : S (rI σ) m_Cr_agreeing d 39 [some (.ref c), none, some (.int v2), some (.int v3)] [.int s0, .int s1] σ (f_Cr_agreeing_j39 c σ k4 k16 v2 v3 s0 s1) := by
  unfold f_Cr_agreeing_j39
  refine S.of1 (pc2 := 40) (fun Q => g_iadd d_Cr_agreeing_39) ?_
  refine S.of1 (pc2 := 41) (L2 := [some (.ref c), some (.int (s1 + s0)), some (.int v2), some (.int v3)]) (fun Q => g_istore_n d_Cr_agreeing_40 (Nat.le_of_ble_eq_true rfl) rfl) ?_
  refine S.of1 (pc2 := 44) (L2 := [some (.ref c), some (.int (s1 + s0)), some (.int v2), some (.int (v3 + (1 : Int32)))]) (fun Q => g_iinc d_Cr_agreeing_41 rfl (congrArg (fun z => v3 + z) (by decide)) (Nat.le_of_ble_eq_true rfl) rfl) ?_
  refine S.of1 (pc2 := 16) (fun Q => g_goto d_Cr_agreeing_44 rfl) ?_
  exact S.wk (L2 := [some (.ref c), some (.int (s1 + s0)), some (.int v2), some (.int (v3 + (1 : Int32)))]) (And.intro rfl (And.intro rfl (And.intro rfl (And.intro rfl trivial)))) (hk16 (s1 + s0) v2 (v3 + (1 : Int32)))
def f_Cr_agreeing_L16 (c : Nat) (σ : gS) (k4 : Int32 → Int32 → Option Int32) : Nat → Int32 → Int32 → Int32 → Option Int32
  | 0, _, _, _ => none
  | n + 1, v1, v2, v3 =>
  if (σ.1 c 2) ≤ v3 then k4 v1 (v2 + (1 : Int32)) else (f_Cr_agree c v2 v3 σ).bind fun q4 => if q4 = 0 then f_Cr_agreeing_j39 c σ k4 (fun v1 v2 v3 => f_Cr_agreeing_L16 c σ k4 n v1 v2 v3) v2 v3 (0 : Int32) v1 else f_Cr_agreeing_j39 c σ k4 (fun v1 v2 v3 => f_Cr_agreeing_L16 c σ k4 n v1 v2 v3) v2 v3 (1 : Int32) v1
theorem s_Cr_agreeing_L16 (d : Nat) (hd : 3 ≤ d) (c : Nat) (hc : gcls c = some 2) (σ : gS) (k4 : Int32 → Int32 → Option Int32) (hk4 : ∀ (v1 : Int32) (v2 : Int32), S (rI σ) m_Cr_agreeing d 4 [some (.ref c), some (.int v1), some (.int v2), none] [] σ (k4 v1 v2)) : ∀ (n : Nat) (v1 : Int32) (v2 : Int32) (v3 : Int32), S (rI σ) m_Cr_agreeing d 16 [some (.ref c), some (.int v1), some (.int v2), some (.int v3)] [] σ (f_Cr_agreeing_L16 c σ k4 n v1 v2 v3) := by
  intro n
  induction n with
  | zero =>
    intros
    unfold f_Cr_agreeing_L16
    exact S.no
  | succ n ih =>
    intro v1 v2 v3
    unfold f_Cr_agreeing_L16
    refine S.of1 (pc2 := 17) (fun Q => g_iload_n d_Cr_agreeing_16 rfl) ?_
    refine S.of1 (pc2 := 18) (fun Q => g_aload_n d_Cr_agreeing_17 rfl) ?_
    refine S.of1 (pc2 := 21) (fun Q => g_geti fl_RX2_52 (gq_2_2 hc) d_Cr_agreeing_18) ?_
    refine S.br (c := (σ.1 c 2) ≤ v3) (t := 47) (e := 24) (fun Q kt kf => g_icmp_ge d_Cr_agreeing_21 rfl kt kf) (fun h3 => ?_) (fun h3 => ?_)
    · refine S.of1 (pc2 := 50) (L2 := [some (.ref c), some (.int v1), some (.int (v2 + (1 : Int32))), some (.int v3)]) (fun Q => g_iinc d_Cr_agreeing_47 rfl (congrArg (fun z => v2 + z) (by decide)) (Nat.le_of_ble_eq_true rfl) rfl) ?_
      refine S.of1 (pc2 := 4) (fun Q => g_goto d_Cr_agreeing_50 rfl) ?_
      exact S.wk (L2 := [some (.ref c), some (.int v1), some (.int (v2 + (1 : Int32))), none]) (And.intro rfl (And.intro rfl (And.intro rfl trivial))) (hk4 v1 (v2 + (1 : Int32)))
    · refine S.of1 (pc2 := 25) (fun Q => g_iload_n d_Cr_agreeing_24 rfl) ?_
      refine S.of1 (pc2 := 26) (fun Q => g_aload_n d_Cr_agreeing_25 rfl) ?_
      refine S.of1 (pc2 := 27) (fun Q => g_iload_n d_Cr_agreeing_26 rfl) ?_
      refine S.of1 (pc2 := 28) (fun Q => g_iload_n d_Cr_agreeing_27 rfl) ?_
      refine S.call_rI (pc3 := 31) rfl (c_Cr_agree (d - 1) (by omega) c hc v2 v3 σ) (fun Q => g_callV (M2 := m_Cr_agree) (vs := [.int v2, .int v3]) (st := [.int v1]) lv_RX2_100 hc rfl rfl (Nat.le_of_ble_eq_true rfl) (by omega) (Nat.le_of_ble_eq_true rfl) rfl d_Cr_agreeing_28) (fun q4 => ?_)
      refine S.br (c := q4 = 0) (t := 38) (e := 34) (fun Q kt kf => g_if_eq d_Cr_agreeing_31 rfl kt kf) (fun h5 => ?_) (fun h5 => ?_)
      · refine S.of1 (pc2 := 39) (fun Q => g_iconst (v := (0 : Int32)) d_Cr_agreeing_38 (by decide)) ?_
        exact S.wk (L2 := [some (.ref c), none, some (.int v2), some (.int v3)]) (And.intro rfl (And.intro rfl (And.intro rfl trivial))) (s_Cr_agreeing_j39 d hd c hc σ k4 hk4 (fun v1 v2 v3 => f_Cr_agreeing_L16 c σ k4 n v1 v2 v3) (fun v1 v2 v3 => ih v1 v2 v3) v2 v3 (0 : Int32) v1)
      · refine S.of1 (pc2 := 35) (fun Q => g_iconst (v := (1 : Int32)) d_Cr_agreeing_34 (by decide)) ?_
        refine S.of1 (pc2 := 39) (fun Q => g_goto d_Cr_agreeing_35 rfl) ?_
        exact S.wk (L2 := [some (.ref c), none, some (.int v2), some (.int v3)]) (And.intro rfl (And.intro rfl (And.intro rfl trivial))) (s_Cr_agreeing_j39 d hd c hc σ k4 hk4 (fun v1 v2 v3 => f_Cr_agreeing_L16 c σ k4 n v1 v2 v3) (fun v1 v2 v3 => ih v1 v2 v3) v2 v3 (1 : Int32) v1)
def f_Cr_agreeing_L4 (c : Nat) (σ : gS) : Nat → Int32 → Int32 → Option Int32
  | 0, _, _ => none
  | n + 1, v1, v2 =>
  if (σ.1 c 2) ≤ v2 then some v1 else glt (v2 + (1 : Int32)) fun x2 => f_Cr_agreeing_L16 c σ (fun v1 v2 => f_Cr_agreeing_L4 c σ n v1 v2) gfu v1 v2 x2
theorem s_Cr_agreeing_L4 (d : Nat) (hd : 3 ≤ d) (c : Nat) (hc : gcls c = some 2) (σ : gS) : ∀ (n : Nat) (v1 : Int32) (v2 : Int32), S (rI σ) m_Cr_agreeing d 4 [some (.ref c), some (.int v1), some (.int v2), none] [] σ (f_Cr_agreeing_L4 c σ n v1 v2) := by
  intro n
  induction n with
  | zero =>
    intros
    unfold f_Cr_agreeing_L4
    exact S.no
  | succ n ih =>
    intro v1 v2
    unfold f_Cr_agreeing_L4
    refine S.of1 (pc2 := 5) (fun Q => g_iload_n d_Cr_agreeing_4 rfl) ?_
    refine S.of1 (pc2 := 6) (fun Q => g_aload_n d_Cr_agreeing_5 rfl) ?_
    refine S.of1 (pc2 := 9) (fun Q => g_geti fl_RX2_52 (gq_2_2 hc) d_Cr_agreeing_6) ?_
    refine S.br (c := (σ.1 c 2) ≤ v2) (t := 53) (e := 12) (fun Q kt kf => g_icmp_ge d_Cr_agreeing_9 rfl kt kf) (fun h1 => ?_) (fun h1 => ?_)
    · refine S.of1 (pc2 := 54) (fun Q => g_iload_n d_Cr_agreeing_53 rfl) ?_
      exact S.ret (fun Q hq => g_iret rfl d_Cr_agreeing_54 hq)
    · refine S.of1 (pc2 := 13) (fun Q => g_iload_n d_Cr_agreeing_12 rfl) ?_
      refine S.of1 (pc2 := 14) (fun Q => g_iconst (v := (1 : Int32)) d_Cr_agreeing_13 (by decide)) ?_
      refine S.of1 (pc2 := 15) (fun Q => g_iadd d_Cr_agreeing_14) ?_
      refine S.of1 (pc2 := 16) (L2 := [some (.ref c), some (.int v1), some (.int v2), some (.int (v2 + (1 : Int32)))]) (fun Q => g_istore_n d_Cr_agreeing_15 (Nat.le_of_ble_eq_true rfl) rfl) ?_
      refine S.glt (x := (v2 + (1 : Int32))) (Lf := fun y => [some (.ref c), some (.int v1), some (.int v2), some (.int y)]) (fun x2 => ?_)
      exact S.wk (L2 := [some (.ref c), some (.int v1), some (.int v2), some (.int x2)]) (And.intro rfl (And.intro rfl (And.intro rfl (And.intro rfl trivial)))) (s_Cr_agreeing_L16 d hd c hc σ (fun v1 v2 => f_Cr_agreeing_L4 c σ n v1 v2) (fun v1 v2 => ih v1 v2) gfu v1 v2 x2)
def f_Cr_agreeing (c : Nat) (σ : gS) : Option Int32 :=
  f_Cr_agreeing_L4 c σ gfu (0 : Int32) (0 : Int32)
theorem c_Cr_agreeing (d : Nat) (hd : 3 ≤ d) (c : Nat) (hc : gcls c = some 2) (σ : gS) : C (rI σ) d m_Cr_agreeing [.ref c] σ (f_Cr_agreeing c σ) := by
  unfold f_Cr_agreeing
  refine C.of (by decide +kernel) (Nat.le_of_ble_eq_true rfl) (L := [some (.ref c), none, none, none]) rfl ?_
  refine S.of1 (pc2 := 1) (fun Q => g_iconst (v := (0 : Int32)) d_Cr_agreeing_0 (by decide)) ?_
  refine S.of1 (pc2 := 2) (L2 := [some (.ref c), some (.int (0 : Int32)), none, none]) (fun Q => g_istore_n d_Cr_agreeing_1 (Nat.le_of_ble_eq_true rfl) rfl) ?_
  refine S.of1 (pc2 := 3) (fun Q => g_iconst (v := (0 : Int32)) d_Cr_agreeing_2 (by decide)) ?_
  refine S.of1 (pc2 := 4) (L2 := [some (.ref c), some (.int (0 : Int32)), some (.int (0 : Int32)), none]) (fun Q => g_istore_n d_Cr_agreeing_3 (Nat.le_of_ble_eq_true rfl) rfl) ?_
  exact S.wk (L2 := [some (.ref c), some (.int (0 : Int32)), some (.int (0 : Int32)), none]) (And.intro rfl (And.intro rfl (And.intro rfl trivial))) (s_Cr_agreeing_L4 d hd c hc σ gfu (0 : Int32) (0 : Int32))
def f_Cr_gather_L24 (c : Nat) : Nat → Int32 → Int32 → Int32 → gS → Option gS
  | 0, _, _, _, _ => none
  | n + 1, v2, v3, v4, σ =>
  if (σ.1 c 2) ≤ v4 then some σ else if gix v4 10 then if gix v4 10 then gup (gpi σ (c + 2) v4.toNatClampNeg (σ.1 2 v4.toNatClampNeg)) fun s6 => if gix v4 10 then if gix v4 10 then (f_Isl_speechAs v4 (s6.1 2 v4.toNatClampNeg) (s6.1 3 v4.toNatClampNeg) v2 v3 s6).bind fun q9 => if gix v4 10 then gup (gpi q9.2 (c + 1) v4.toNatClampNeg q9.1) fun s11 => (fun v2 v3 v4 σ => f_Cr_gather_L24 c n v2 v3 v4 σ) v2 v3 (v4 + (1 : Int32)) s11 else none else none else none else none else none
theorem s_Cr_gather_L24 (d : Nat) (hd : 4 ≤ d) (c : Nat) (hc : gcls c = some 2) : ∀ (n : Nat) (v2 : Int32) (v3 : Int32) (v4 : Int32) (σ : gS), S wV m_Cr_gather d 24 [some (.ref c), some (.ref 1), some (.int v2), some (.int v3), some (.int v4)] [] σ (f_Cr_gather_L24 c n v2 v3 v4 σ) := by
  intro n
  induction n with
  | zero =>
    intros
    unfold f_Cr_gather_L24
    exact S.no
  | succ n ih =>
    intro v2 v3 v4 σ
    unfold f_Cr_gather_L24
    refine S.of1 (pc2 := 26) (fun Q => g_iload d_Cr_gather_24 rfl) ?_
    refine S.of1 (pc2 := 27) (fun Q => g_aload_n d_Cr_gather_26 rfl) ?_
    refine S.of1 (pc2 := 30) (fun Q => g_geti fl_RX2_52 (gq_2_2 hc) d_Cr_gather_27) ?_
    refine S.br (c := (σ.1 c 2) ≤ v4) (t := 82) (e := 33) (fun Q kt kf => g_icmp_ge d_Cr_gather_30 rfl kt kf) (fun h3 => ?_) (fun h3 => ?_)
    · exact S.ret (fun Q hq => g_vret rfl d_Cr_gather_82 hq)
    · refine S.of1 (pc2 := 34) (fun Q => g_aload_n d_Cr_gather_33 rfl) ?_
      refine S.of1 (pc2 := 37) (fun Q => g_getr fl_RX2_15 (gq_2_1 hc) d_Cr_gather_34) ?_
      refine S.of1 (pc2 := 39) (fun Q => g_iload d_Cr_gather_37 rfl) ?_
      refine S.of1 (pc2 := 40) (fun Q => g_aload_n d_Cr_gather_39 rfl) ?_
      refine S.of1 (pc2 := 43) (fun Q => g_getr fl_RX2_57 gc_1_0 d_Cr_gather_40) ?_
      refine S.of1 (pc2 := 45) (fun Q => g_iload d_Cr_gather_43 rfl) ?_
      refine S.chk (fun h4 => ?_)
      refine S.of1 (pc2 := 46) (fun Q => g_iald ga_2 (gix_in h4) d_Cr_gather_45) ?_
      refine S.chk (fun h5 => ?_)
      refine S.of1 (pc2 := 47) (fun Q => g_iast (gp_2_1 hc) (gix_in h5) d_Cr_gather_46) ?_
      refine S.gup (fun s6 => ?_)
      refine S.of1 (pc2 := 48) (fun Q => g_aload_n d_Cr_gather_47 rfl) ?_
      refine S.of1 (pc2 := 51) (fun Q => g_getr fl_RX2_9 (gq_2_0 hc) d_Cr_gather_48) ?_
      refine S.of1 (pc2 := 53) (fun Q => g_iload d_Cr_gather_51 rfl) ?_
      refine S.of1 (pc2 := 54) (fun Q => g_aload_n d_Cr_gather_53 rfl) ?_
      refine S.of1 (pc2 := 56) (fun Q => g_iload d_Cr_gather_54 rfl) ?_
      refine S.of1 (pc2 := 57) (fun Q => g_aload_n d_Cr_gather_56 rfl) ?_
      refine S.of1 (pc2 := 60) (fun Q => g_getr fl_RX2_57 gc_1_0 d_Cr_gather_57) ?_
      refine S.of1 (pc2 := 62) (fun Q => g_iload d_Cr_gather_60 rfl) ?_
      refine S.chk (fun h7 => ?_)
      refine S.of1 (pc2 := 63) (fun Q => g_iald ga_2 (gix_in h7) d_Cr_gather_62) ?_
      refine S.of1 (pc2 := 64) (fun Q => g_aload_n d_Cr_gather_63 rfl) ?_
      refine S.of1 (pc2 := 67) (fun Q => g_getr fl_RX2_58 gc_1_1 d_Cr_gather_64) ?_
      refine S.of1 (pc2 := 69) (fun Q => g_iload d_Cr_gather_67 rfl) ?_
      refine S.chk (fun h8 => ?_)
      refine S.of1 (pc2 := 70) (fun Q => g_iald ga_3 (gix_in h8) d_Cr_gather_69) ?_
      refine S.of1 (pc2 := 71) (fun Q => g_iload_n d_Cr_gather_70 rfl) ?_
      refine S.of1 (pc2 := 72) (fun Q => g_iload_n d_Cr_gather_71 rfl) ?_
      refine S.call_wI (pc3 := 75) rfl (c_Isl_speechAs (d - 1) (by omega) v4 (s6.1 2 v4.toNatClampNeg) (s6.1 3 v4.toNatClampNeg) v2 v3 s6) (fun Q => g_callV (M2 := m_Isl_speechAs) (vs := [.int v4, .int (s6.1 2 v4.toNatClampNeg), .int (s6.1 3 v4.toNatClampNeg), .int v2, .int v3]) (st := [.int v4, .ref (c + 1)]) lv_RX2_61 gk_1 rfl rfl (Nat.le_of_ble_eq_true rfl) (by omega) (Nat.le_of_ble_eq_true rfl) rfl d_Cr_gather_72) (fun q9 => ?_)
      refine S.chk (fun h10 => ?_)
      refine S.of1 (pc2 := 76) (fun Q => g_iast (gp_2_0 hc) (gix_in h10) d_Cr_gather_75) ?_
      refine S.gup (fun s11 => ?_)
      refine S.of1 (pc2 := 79) (L2 := [some (.ref c), some (.ref 1), some (.int v2), some (.int v3), some (.int (v4 + (1 : Int32)))]) (fun Q => g_iinc d_Cr_gather_76 rfl (congrArg (fun z => v4 + z) (by decide)) (Nat.le_of_ble_eq_true rfl) rfl) ?_
      refine S.of1 (pc2 := 24) (fun Q => g_goto d_Cr_gather_79 rfl) ?_
      exact S.wk (L2 := [some (.ref c), some (.ref 1), some (.int v2), some (.int v3), some (.int (v4 + (1 : Int32)))]) (And.intro rfl (And.intro rfl (And.intro rfl (And.intro rfl (And.intro rfl trivial))))) (ih v2 v3 (v4 + (1 : Int32)) s11)
def f_Cr_gather (c : Nat) (v2 : Int32) (v3 : Int32) (σ : gS) : Option gS :=
  gup (gpi σ c 2 (gmin (σ.1 1 6) (10 : Int32))) fun s1 => gup (gpi s1 c 3 (s1.1 1 8)) fun s2 => f_Cr_gather_L24 c gfu v2 v3 (0 : Int32) s2
theorem c_Cr_gather (d : Nat) (hd : 4 ≤ d) (c : Nat) (hc : gcls c = some 2) (v2 : Int32) (v3 : Int32) (σ : gS) : C wV d m_Cr_gather [.ref c, .ref 1, .int v2, .int v3] σ (f_Cr_gather c v2 v3 σ) := by
  unfold f_Cr_gather
  refine C.of (by decide +kernel) (Nat.le_of_ble_eq_true rfl) (L := [some (.ref c), some (.ref 1), some (.int v2), some (.int v3), none]) rfl ?_
  refine S.of1 (pc2 := 1) (fun Q => g_aload_n d_Cr_gather_0 rfl) ?_
  refine S.of1 (pc2 := 2) (fun Q => g_aload_n d_Cr_gather_1 rfl) ?_
  refine S.of1 (pc2 := 5) (fun Q => g_geti fl_RX2_43 gc_1_6 d_Cr_gather_2) ?_
  refine S.of1 (pc2 := 7) (fun Q => g_bipush (v := (10 : Int32)) d_Cr_gather_5 (by decide)) ?_
  refine S.of1 (pc2 := 10) (fun Q => g_mmin w_721 w_600 w_91 wc_min (by omega) (Nat.le_of_ble_eq_true rfl) d_Cr_gather_7) ?_
  refine S.of1 (pc2 := 13) (fun Q => g_puti fl_RX2_52 (gq_2_2 hc) rfl rfl d_Cr_gather_10) ?_
  refine S.gup (fun s1 => ?_)
  refine S.of1 (pc2 := 14) (fun Q => g_aload_n d_Cr_gather_13 rfl) ?_
  refine S.of1 (pc2 := 15) (fun Q => g_aload_n d_Cr_gather_14 rfl) ?_
  refine S.of1 (pc2 := 18) (fun Q => g_geti fl_RX2_53 gc_1_8 d_Cr_gather_15) ?_
  refine S.of1 (pc2 := 21) (fun Q => g_puti fl_RX2_56 (gq_2_3 hc) rfl rfl d_Cr_gather_18) ?_
  refine S.gup (fun s2 => ?_)
  refine S.of1 (pc2 := 22) (fun Q => g_iconst (v := (0 : Int32)) d_Cr_gather_21 (by decide)) ?_
  refine S.of1 (pc2 := 24) (L2 := [some (.ref c), some (.ref 1), some (.int v2), some (.int v3), some (.int (0 : Int32))]) (fun Q => g_istore d_Cr_gather_22 (Nat.le_of_ble_eq_true rfl) rfl) ?_
  exact S.wk (L2 := [some (.ref c), some (.ref 1), some (.int v2), some (.int v3), some (.int (0 : Int32))]) (And.intro rfl (And.intro rfl (And.intro rfl (And.intro rfl (And.intro rfl trivial))))) (s_Cr_gather_L24 d hd c hc gfu v2 v3 (0 : Int32) s2)
def f_Cr_gatherNow (c : Nat) (σ : gS) : Option gS :=
  (f_Cr_gather c (σ.1 1 7) (σ.1 1 9) σ).bind fun s1 => some s1
theorem c_Cr_gatherNow (d : Nat) (hd : 5 ≤ d) (c : Nat) (hc : gcls c = some 2) (σ : gS) : C wV d m_Cr_gatherNow [.ref c, .ref 1] σ (f_Cr_gatherNow c σ) := by
  unfold f_Cr_gatherNow
  refine C.of (by decide +kernel) (Nat.le_of_ble_eq_true rfl) (L := [some (.ref c), some (.ref 1)]) rfl ?_
  refine S.of1 (pc2 := 1) (fun Q => g_aload_n d_Cr_gatherNow_0 rfl) ?_
  refine S.of1 (pc2 := 2) (fun Q => g_aload_n d_Cr_gatherNow_1 rfl) ?_
  refine S.of1 (pc2 := 3) (fun Q => g_aload_n d_Cr_gatherNow_2 rfl) ?_
  refine S.of1 (pc2 := 6) (fun Q => g_geti fl_RX2_30 gc_1_7 d_Cr_gatherNow_3) ?_
  refine S.of1 (pc2 := 7) (fun Q => g_aload_n d_Cr_gatherNow_6 rfl) ?_
  refine S.of1 (pc2 := 10) (fun Q => g_geti fl_RX2_36 gc_1_9 d_Cr_gatherNow_7) ?_
  refine S.call_wV (pc3 := 13) rfl (c_Cr_gather (d - 1) (by omega) c hc (σ.1 1 7) (σ.1 1 9) σ) (fun Q => g_callV (M2 := m_Cr_gather) (vs := [.ref 1, .int (σ.1 1 7), .int (σ.1 1 9)]) (st := []) lv_RX2_39 hc rfl rfl (Nat.le_of_ble_eq_true rfl) (by omega) (Nat.le_of_ble_eq_true rfl) rfl d_Cr_gatherNow_10) (fun s1 => ?_)
  exact S.ret (fun Q hq => g_vret rfl d_Cr_gatherNow_13 hq)
def f_JI_bitCount (v0 : Int32) : Option Int32 :=
  glt (v0 - ((gush v0 (1 : Int32)) &&& (1431655765 : Int32))) fun x1 => glt ((x1 &&& (858993459 : Int32)) + ((gush x1 (2 : Int32)) &&& (858993459 : Int32))) fun x2 => glt ((x2 + (gush x2 (4 : Int32))) &&& (252645135 : Int32)) fun x3 => glt (x3 + (gush x3 (8 : Int32))) fun x4 => glt (x4 + (gush x4 (16 : Int32))) fun x5 => some (x5 &&& (63 : Int32))
theorem c_JI_bitCount (d : Nat) (hd : 1 ≤ d) (v0 : Int32) (σ : gS) : C (rI σ) d m_JI_bitCount [.int v0] σ (f_JI_bitCount v0) := by
  unfold f_JI_bitCount
  refine C.of (by decide +kernel) (Nat.le_of_ble_eq_true rfl) (L := [some (.int v0)]) rfl ?_
  refine S.of1 (pc2 := 1) (fun Q => g_iload_n d_JI_bitCount_0 rfl) ?_
  refine S.of1 (pc2 := 2) (fun Q => g_iload_n d_JI_bitCount_1 rfl) ?_
  refine S.of1 (pc2 := 3) (fun Q => g_iconst (v := (1 : Int32)) d_JI_bitCount_2 (by decide)) ?_
  refine S.of1 (pc2 := 4) (fun Q => g_iushr d_JI_bitCount_3) ?_
  refine S.of1 (pc2 := 7) (fun Q => g_ldcw (v := (1431655765 : Int32)) d_JI_bitCount_4 w_738) ?_
  refine S.of1 (pc2 := 8) (fun Q => g_iand d_JI_bitCount_7) ?_
  refine S.of1 (pc2 := 9) (fun Q => g_isub d_JI_bitCount_8) ?_
  refine S.of1 (pc2 := 10) (L2 := [some (.int (v0 - ((gush v0 (1 : Int32)) &&& (1431655765 : Int32))))]) (fun Q => g_istore_n d_JI_bitCount_9 (Nat.le_of_ble_eq_true rfl) rfl) ?_
  refine S.glt (x := (v0 - ((gush v0 (1 : Int32)) &&& (1431655765 : Int32)))) (Lf := fun y => [some (.int y)]) (fun x1 => ?_)
  refine S.of1 (pc2 := 11) (fun Q => g_iload_n d_JI_bitCount_10 rfl) ?_
  refine S.of1 (pc2 := 14) (fun Q => g_ldcw (v := (858993459 : Int32)) d_JI_bitCount_11 w_739) ?_
  refine S.of1 (pc2 := 15) (fun Q => g_iand d_JI_bitCount_14) ?_
  refine S.of1 (pc2 := 16) (fun Q => g_iload_n d_JI_bitCount_15 rfl) ?_
  refine S.of1 (pc2 := 17) (fun Q => g_iconst (v := (2 : Int32)) d_JI_bitCount_16 (by decide)) ?_
  refine S.of1 (pc2 := 18) (fun Q => g_iushr d_JI_bitCount_17) ?_
  refine S.of1 (pc2 := 21) (fun Q => g_ldcw (v := (858993459 : Int32)) d_JI_bitCount_18 w_739) ?_
  refine S.of1 (pc2 := 22) (fun Q => g_iand d_JI_bitCount_21) ?_
  refine S.of1 (pc2 := 23) (fun Q => g_iadd d_JI_bitCount_22) ?_
  refine S.of1 (pc2 := 24) (L2 := [some (.int ((x1 &&& (858993459 : Int32)) + ((gush x1 (2 : Int32)) &&& (858993459 : Int32))))]) (fun Q => g_istore_n d_JI_bitCount_23 (Nat.le_of_ble_eq_true rfl) rfl) ?_
  refine S.glt (x := ((x1 &&& (858993459 : Int32)) + ((gush x1 (2 : Int32)) &&& (858993459 : Int32)))) (Lf := fun y => [some (.int y)]) (fun x2 => ?_)
  refine S.of1 (pc2 := 25) (fun Q => g_iload_n d_JI_bitCount_24 rfl) ?_
  refine S.of1 (pc2 := 26) (fun Q => g_iload_n d_JI_bitCount_25 rfl) ?_
  refine S.of1 (pc2 := 27) (fun Q => g_iconst (v := (4 : Int32)) d_JI_bitCount_26 (by decide)) ?_
  refine S.of1 (pc2 := 28) (fun Q => g_iushr d_JI_bitCount_27) ?_
  refine S.of1 (pc2 := 29) (fun Q => g_iadd d_JI_bitCount_28) ?_
  refine S.of1 (pc2 := 32) (fun Q => g_ldcw (v := (252645135 : Int32)) d_JI_bitCount_29 w_740) ?_
  refine S.of1 (pc2 := 33) (fun Q => g_iand d_JI_bitCount_32) ?_
  refine S.of1 (pc2 := 34) (L2 := [some (.int ((x2 + (gush x2 (4 : Int32))) &&& (252645135 : Int32)))]) (fun Q => g_istore_n d_JI_bitCount_33 (Nat.le_of_ble_eq_true rfl) rfl) ?_
  refine S.glt (x := ((x2 + (gush x2 (4 : Int32))) &&& (252645135 : Int32))) (Lf := fun y => [some (.int y)]) (fun x3 => ?_)
  refine S.of1 (pc2 := 35) (fun Q => g_iload_n d_JI_bitCount_34 rfl) ?_
  refine S.of1 (pc2 := 36) (fun Q => g_iload_n d_JI_bitCount_35 rfl) ?_
  refine S.of1 (pc2 := 38) (fun Q => g_bipush (v := (8 : Int32)) d_JI_bitCount_36 (by decide)) ?_
  refine S.of1 (pc2 := 39) (fun Q => g_iushr d_JI_bitCount_38) ?_
  refine S.of1 (pc2 := 40) (fun Q => g_iadd d_JI_bitCount_39) ?_
  refine S.of1 (pc2 := 41) (L2 := [some (.int (x3 + (gush x3 (8 : Int32))))]) (fun Q => g_istore_n d_JI_bitCount_40 (Nat.le_of_ble_eq_true rfl) rfl) ?_
  refine S.glt (x := (x3 + (gush x3 (8 : Int32)))) (Lf := fun y => [some (.int y)]) (fun x4 => ?_)
  refine S.of1 (pc2 := 42) (fun Q => g_iload_n d_JI_bitCount_41 rfl) ?_
  refine S.of1 (pc2 := 43) (fun Q => g_iload_n d_JI_bitCount_42 rfl) ?_
  refine S.of1 (pc2 := 45) (fun Q => g_bipush (v := (16 : Int32)) d_JI_bitCount_43 (by decide)) ?_
  refine S.of1 (pc2 := 46) (fun Q => g_iushr d_JI_bitCount_45) ?_
  refine S.of1 (pc2 := 47) (fun Q => g_iadd d_JI_bitCount_46) ?_
  refine S.of1 (pc2 := 48) (L2 := [some (.int (x4 + (gush x4 (16 : Int32))))]) (fun Q => g_istore_n d_JI_bitCount_47 (Nat.le_of_ble_eq_true rfl) rfl) ?_
  refine S.glt (x := (x4 + (gush x4 (16 : Int32)))) (Lf := fun y => [some (.int y)]) (fun x5 => ?_)
  refine S.of1 (pc2 := 49) (fun Q => g_iload_n d_JI_bitCount_48 rfl) ?_
  refine S.of1 (pc2 := 51) (fun Q => g_bipush (v := (63 : Int32)) d_JI_bitCount_49 (by decide)) ?_
  refine S.of1 (pc2 := 52) (fun Q => g_iand d_JI_bitCount_51) ?_
  exact S.ret (fun Q hq => g_iret rfl d_JI_bitCount_52 hq)
def f_Cr_isSaidByTwo_j35 (c : Nat) (σ : gS) (v1 : Int32) (v2 : Int32) : Option Int32 :=
  if gix v1 6 then if (σ.1 (c + 3) v1.toNatClampNeg) = 0 then some (0 : Int32) else (f_JI_bitCount v2).bind fun q4 => if q4 < (2 : Int32) then some (0 : Int32) else some (1 : Int32) else none
theorem s_Cr_isSaidByTwo_j35 (d : Nat) (hd : 2 ≤ d) (c : Nat) (hc : gcls c = some 2) (σ : gS) (v1 : Int32) (v2 : Int32) : S (rI σ) m_Cr_isSaidByTwo d 35 [some (.ref c), some (.int v1), some (.int v2), none] [] σ (f_Cr_isSaidByTwo_j35 c σ v1 v2) := by
  unfold f_Cr_isSaidByTwo_j35
  refine S.of1 (pc2 := 36) (fun Q => g_aload_n d_Cr_isSaidByTwo_35 rfl) ?_
  refine S.of1 (pc2 := 39) (fun Q => g_getr fl_RX2_18 (gq_2_4 hc) d_Cr_isSaidByTwo_36) ?_
  refine S.of1 (pc2 := 40) (fun Q => g_iload_n d_Cr_isSaidByTwo_39 rfl) ?_
  refine S.chk (fun h2 => ?_)
  refine S.of1 (pc2 := 41) (fun Q => g_iald (gp_2_4 hc) (gix_in h2) d_Cr_isSaidByTwo_40) ?_
  refine S.br (c := (σ.1 (c + 3) v1.toNatClampNeg) = 0) (t := 56) (e := 44) (fun Q kt kf => g_if_eq d_Cr_isSaidByTwo_41 rfl kt kf) (fun h3 => ?_) (fun h3 => ?_)
  · refine S.of1 (pc2 := 57) (fun Q => g_iconst (v := (0 : Int32)) d_Cr_isSaidByTwo_56 (by decide)) ?_
    exact S.ret (fun Q hq => g_zret rfl rfl d_Cr_isSaidByTwo_57 hq)
  · refine S.of1 (pc2 := 45) (fun Q => g_iload_n d_Cr_isSaidByTwo_44 rfl) ?_
    refine S.call_rI (pc3 := 48) rfl (c_JI_bitCount (d - 1) (by omega) v2 σ) (fun Q => g_callS (M2 := m_JI_bitCount) (vs := [.int v2]) (st := []) ls_RX2_107 rfl (Nat.le_of_ble_eq_true rfl) (by omega) (Nat.le_of_ble_eq_true rfl) rfl d_Cr_isSaidByTwo_45) (fun q4 => ?_)
    refine S.of1 (pc2 := 49) (fun Q => g_iconst (v := (2 : Int32)) d_Cr_isSaidByTwo_48 (by decide)) ?_
    refine S.br (c := q4 < (2 : Int32)) (t := 56) (e := 52) (fun Q kt kf => g_icmp_lt d_Cr_isSaidByTwo_49 rfl kt kf) (fun h5 => ?_) (fun h5 => ?_)
    · refine S.of1 (pc2 := 57) (fun Q => g_iconst (v := (0 : Int32)) d_Cr_isSaidByTwo_56 (by decide)) ?_
      exact S.ret (fun Q hq => g_zret rfl rfl d_Cr_isSaidByTwo_57 hq)
    · refine S.of1 (pc2 := 53) (fun Q => g_iconst (v := (1 : Int32)) d_Cr_isSaidByTwo_52 (by decide)) ?_
      refine S.of1 (pc2 := 57) (fun Q => g_goto d_Cr_isSaidByTwo_53 rfl) ?_
      exact S.ret (fun Q hq => g_zret rfl rfl d_Cr_isSaidByTwo_57 hq)
def f_Cr_isSaidByTwo_L4 (c : Nat) (σ : gS) : Nat → Int32 → Int32 → Int32 → Option Int32
  | 0, _, _, _ => none
  | n + 1, v1, v2, v3 =>
  if (v1 + (σ.1 c 3)) < v3 then f_Cr_isSaidByTwo_j35 c σ v1 v2 else if (6 : Int32) ≤ v3 then f_Cr_isSaidByTwo_j35 c σ v1 v2 else if gix v3 6 then glt (v2 ||| (σ.1 (c + 3) v3.toNatClampNeg)) fun x8 => (fun v1 v2 v3 => f_Cr_isSaidByTwo_L4 c σ n v1 v2 v3) v1 x8 (v3 + (1 : Int32)) else none
theorem s_Cr_isSaidByTwo_L4 (d : Nat) (hd : 2 ≤ d) (c : Nat) (hc : gcls c = some 2) (σ : gS) : ∀ (n : Nat) (v1 : Int32) (v2 : Int32) (v3 : Int32), S (rI σ) m_Cr_isSaidByTwo d 4 [some (.ref c), some (.int v1), some (.int v2), some (.int v3)] [] σ (f_Cr_isSaidByTwo_L4 c σ n v1 v2 v3) := by
  intro n
  induction n with
  | zero =>
    intros
    unfold f_Cr_isSaidByTwo_L4
    exact S.no
  | succ n ih =>
    intro v1 v2 v3
    unfold f_Cr_isSaidByTwo_L4
    refine S.of1 (pc2 := 5) (fun Q => g_iload_n d_Cr_isSaidByTwo_4 rfl) ?_
    refine S.of1 (pc2 := 6) (fun Q => g_iload_n d_Cr_isSaidByTwo_5 rfl) ?_
    refine S.of1 (pc2 := 7) (fun Q => g_aload_n d_Cr_isSaidByTwo_6 rfl) ?_
    refine S.of1 (pc2 := 10) (fun Q => g_geti fl_RX2_56 (gq_2_3 hc) d_Cr_isSaidByTwo_7) ?_
    refine S.of1 (pc2 := 11) (fun Q => g_iadd d_Cr_isSaidByTwo_10) ?_
    refine S.br (c := (v1 + (σ.1 c 3)) < v3) (t := 35) (e := 14) (fun Q kt kf => g_icmp_gt d_Cr_isSaidByTwo_11 rfl kt kf) (fun h1 => ?_) (fun h1 => ?_)
    · exact S.wk (L2 := [some (.ref c), some (.int v1), some (.int v2), none]) (And.intro rfl (And.intro rfl (And.intro rfl trivial))) (s_Cr_isSaidByTwo_j35 d hd c hc σ v1 v2)
    · refine S.of1 (pc2 := 15) (fun Q => g_iload_n d_Cr_isSaidByTwo_14 rfl) ?_
      refine S.of1 (pc2 := 17) (fun Q => g_bipush (v := (6 : Int32)) d_Cr_isSaidByTwo_15 (by decide)) ?_
      refine S.br (c := (6 : Int32) ≤ v3) (t := 35) (e := 20) (fun Q kt kf => g_icmp_ge d_Cr_isSaidByTwo_17 rfl kt kf) (fun h6 => ?_) (fun h6 => ?_)
      · exact S.wk (L2 := [some (.ref c), some (.int v1), some (.int v2), none]) (And.intro rfl (And.intro rfl (And.intro rfl trivial))) (s_Cr_isSaidByTwo_j35 d hd c hc σ v1 v2)
      · refine S.of1 (pc2 := 21) (fun Q => g_iload_n d_Cr_isSaidByTwo_20 rfl) ?_
        refine S.of1 (pc2 := 22) (fun Q => g_aload_n d_Cr_isSaidByTwo_21 rfl) ?_
        refine S.of1 (pc2 := 25) (fun Q => g_getr fl_RX2_18 (gq_2_4 hc) d_Cr_isSaidByTwo_22) ?_
        refine S.of1 (pc2 := 26) (fun Q => g_iload_n d_Cr_isSaidByTwo_25 rfl) ?_
        refine S.chk (fun h7 => ?_)
        refine S.of1 (pc2 := 27) (fun Q => g_iald (gp_2_4 hc) (gix_in h7) d_Cr_isSaidByTwo_26) ?_
        refine S.of1 (pc2 := 28) (fun Q => g_ior d_Cr_isSaidByTwo_27) ?_
        refine S.of1 (pc2 := 29) (L2 := [some (.ref c), some (.int v1), some (.int (v2 ||| (σ.1 (c + 3) v3.toNatClampNeg))), some (.int v3)]) (fun Q => g_istore_n d_Cr_isSaidByTwo_28 (Nat.le_of_ble_eq_true rfl) rfl) ?_
        refine S.glt (x := (v2 ||| (σ.1 (c + 3) v3.toNatClampNeg))) (Lf := fun y => [some (.ref c), some (.int v1), some (.int y), some (.int v3)]) (fun x8 => ?_)
        refine S.of1 (pc2 := 32) (L2 := [some (.ref c), some (.int v1), some (.int x8), some (.int (v3 + (1 : Int32)))]) (fun Q => g_iinc d_Cr_isSaidByTwo_29 rfl (congrArg (fun z => v3 + z) (by decide)) (Nat.le_of_ble_eq_true rfl) rfl) ?_
        refine S.of1 (pc2 := 4) (fun Q => g_goto d_Cr_isSaidByTwo_32 rfl) ?_
        exact S.wk (L2 := [some (.ref c), some (.int v1), some (.int x8), some (.int (v3 + (1 : Int32)))]) (And.intro rfl (And.intro rfl (And.intro rfl (And.intro rfl trivial)))) (ih v1 x8 (v3 + (1 : Int32)))
def f_Cr_isSaidByTwo (c : Nat) (v1 : Int32) (σ : gS) : Option Int32 :=
  f_Cr_isSaidByTwo_L4 c σ gfu v1 (0 : Int32) v1
theorem c_Cr_isSaidByTwo (d : Nat) (hd : 2 ≤ d) (c : Nat) (hc : gcls c = some 2) (v1 : Int32) (σ : gS) : C (rI σ) d m_Cr_isSaidByTwo [.ref c, .int v1] σ (f_Cr_isSaidByTwo c v1 σ) := by
  unfold f_Cr_isSaidByTwo
  refine C.of (by decide +kernel) (Nat.le_of_ble_eq_true rfl) (L := [some (.ref c), some (.int v1), none, none]) rfl ?_
  refine S.of1 (pc2 := 1) (fun Q => g_iconst (v := (0 : Int32)) d_Cr_isSaidByTwo_0 (by decide)) ?_
  refine S.of1 (pc2 := 2) (L2 := [some (.ref c), some (.int v1), some (.int (0 : Int32)), none]) (fun Q => g_istore_n d_Cr_isSaidByTwo_1 (Nat.le_of_ble_eq_true rfl) rfl) ?_
  refine S.of1 (pc2 := 3) (fun Q => g_iload_n d_Cr_isSaidByTwo_2 rfl) ?_
  refine S.of1 (pc2 := 4) (L2 := [some (.ref c), some (.int v1), some (.int (0 : Int32)), some (.int v1)]) (fun Q => g_istore_n d_Cr_isSaidByTwo_3 (Nat.le_of_ble_eq_true rfl) rfl) ?_
  exact S.wk (L2 := [some (.ref c), some (.int v1), some (.int (0 : Int32)), some (.int v1)]) (And.intro rfl (And.intro rfl (And.intro rfl (And.intro rfl trivial)))) (s_Cr_isSaidByTwo_L4 d hd c hc σ gfu v1 (0 : Int32) v1)
def f_Cr_happened_j91 (c : Nat) (k69 : Int32 → Int32 → gS → Option (Int32 × gS)) (v3 : Int32) (s0 : Int32) (s1 : Int32) (σ : gS) : Option (Int32 × gS) :=
  k69 (s1 ||| s0) (v3 + (1 : Int32)) σ
theorem s_Cr_happened_j91 (d : Nat) (hd : 3 ≤ d) (c : Nat) (hc : gcls c = some 2) (k69 : Int32 → Int32 → gS → Option (Int32 × gS)) (hk69 : ∀ (v2 : Int32) (v3 : Int32) (τ : gS), S wI m_Cr_happened d 69 [some (.ref c), none, some (.int v2), some (.int v3)] [] τ (k69 v2 v3 τ)) (v3 : Int32) (s0 : Int32) (s1 : Int32) (σ : gS) : S wI m_Cr_happened d 91 [some (.ref c), none, none, some (.int v3)] [.int s0, .int s1] σ (f_Cr_happened_j91 c k69 v3 s0 s1 σ) := by
  unfold f_Cr_happened_j91
  refine S.of1 (pc2 := 92) (fun Q => g_ior d_Cr_happened_91) ?_
  refine S.of1 (pc2 := 93) (L2 := [some (.ref c), none, some (.int (s1 ||| s0)), some (.int v3)]) (fun Q => g_istore_n d_Cr_happened_92 (Nat.le_of_ble_eq_true rfl) rfl) ?_
  refine S.of1 (pc2 := 96) (L2 := [some (.ref c), none, some (.int (s1 ||| s0)), some (.int (v3 + (1 : Int32)))]) (fun Q => g_iinc d_Cr_happened_93 rfl (congrArg (fun z => v3 + z) (by decide)) (Nat.le_of_ble_eq_true rfl) rfl) ?_
  refine S.of1 (pc2 := 69) (fun Q => g_goto d_Cr_happened_96 rfl) ?_
  exact S.wk (L2 := [some (.ref c), none, some (.int (s1 ||| s0)), some (.int (v3 + (1 : Int32)))]) (And.intro rfl (And.intro rfl (And.intro rfl trivial))) (hk69 (s1 ||| s0) (v3 + (1 : Int32)) σ)
def f_Cr_happened_L69 (c : Nat) : Nat → Int32 → Int32 → gS → Option (Int32 × gS)
  | 0, _, _, _ => none
  | n + 1, v2, v3, σ =>
  if (6 : Int32) ≤ v3 then some (v2, σ) else (f_Cr_isSaidByTwo c v3 σ).bind fun q4 => if q4 = 0 then f_Cr_happened_j91 c (fun v2 v3 σ => f_Cr_happened_L69 c n v2 v3 σ) v3 (0 : Int32) v2 σ else f_Cr_happened_j91 c (fun v2 v3 σ => f_Cr_happened_L69 c n v2 v3 σ) v3 ((1 : Int32) <<< (v3 &&& 31)) v2 σ
theorem s_Cr_happened_L69 (d : Nat) (hd : 3 ≤ d) (c : Nat) (hc : gcls c = some 2) : ∀ (n : Nat) (v2 : Int32) (v3 : Int32) (σ : gS), S wI m_Cr_happened d 69 [some (.ref c), none, some (.int v2), some (.int v3)] [] σ (f_Cr_happened_L69 c n v2 v3 σ) := by
  intro n
  induction n with
  | zero =>
    intros
    unfold f_Cr_happened_L69
    exact S.no
  | succ n ih =>
    intro v2 v3 σ
    unfold f_Cr_happened_L69
    refine S.of1 (pc2 := 70) (fun Q => g_iload_n d_Cr_happened_69 rfl) ?_
    refine S.of1 (pc2 := 72) (fun Q => g_bipush (v := (6 : Int32)) d_Cr_happened_70 (by decide)) ?_
    refine S.br (c := (6 : Int32) ≤ v3) (t := 99) (e := 75) (fun Q kt kf => g_icmp_ge d_Cr_happened_72 rfl kt kf) (fun h3 => ?_) (fun h3 => ?_)
    · refine S.of1 (pc2 := 100) (fun Q => g_iload_n d_Cr_happened_99 rfl) ?_
      exact S.ret (fun Q hq => g_iret rfl d_Cr_happened_100 hq)
    · refine S.of1 (pc2 := 76) (fun Q => g_iload_n d_Cr_happened_75 rfl) ?_
      refine S.of1 (pc2 := 77) (fun Q => g_aload_n d_Cr_happened_76 rfl) ?_
      refine S.of1 (pc2 := 78) (fun Q => g_iload_n d_Cr_happened_77 rfl) ?_
      refine S.call_rI (pc3 := 81) rfl (c_Cr_isSaidByTwo (d - 1) (by omega) c hc v3 σ) (fun Q => g_callV (M2 := m_Cr_isSaidByTwo) (vs := [.int v3]) (st := [.int v2]) lv_RX2_103 hc rfl rfl (Nat.le_of_ble_eq_true rfl) (by omega) (Nat.le_of_ble_eq_true rfl) rfl d_Cr_happened_78) (fun q4 => ?_)
      refine S.br (c := q4 = 0) (t := 90) (e := 84) (fun Q kt kf => g_if_eq d_Cr_happened_81 rfl kt kf) (fun h5 => ?_) (fun h5 => ?_)
      · refine S.of1 (pc2 := 91) (fun Q => g_iconst (v := (0 : Int32)) d_Cr_happened_90 (by decide)) ?_
        exact S.wk (L2 := [some (.ref c), none, none, some (.int v3)]) (And.intro rfl (And.intro rfl trivial)) (s_Cr_happened_j91 d hd c hc (fun v2 v3 σ => f_Cr_happened_L69 c n v2 v3 σ) (fun v2 v3 τ => ih v2 v3 τ) v3 (0 : Int32) v2 σ)
      · refine S.of1 (pc2 := 85) (fun Q => g_iconst (v := (1 : Int32)) d_Cr_happened_84 (by decide)) ?_
        refine S.of1 (pc2 := 86) (fun Q => g_iload_n d_Cr_happened_85 rfl) ?_
        refine S.of1 (pc2 := 87) (fun Q => g_ishl d_Cr_happened_86) ?_
        refine S.of1 (pc2 := 91) (fun Q => g_goto d_Cr_happened_87 rfl) ?_
        exact S.wk (L2 := [some (.ref c), none, none, some (.int v3)]) (And.intro rfl (And.intro rfl trivial)) (s_Cr_happened_j91 d hd c hc (fun v2 v3 σ => f_Cr_happened_L69 c n v2 v3 σ) (fun v2 v3 τ => ih v2 v3 τ) v3 ((1 : Int32) <<< (v3 &&& 31)) v2 σ)
def f_Cr_happened_L10 (c : Nat) : Nat → Int32 → Int32 → gS → Option (Int32 × gS)
  | 0, _, _, _ => none
  | n + 1, v1, v2, σ =>
  if (σ.1 c 2) ≤ v2 then f_Cr_happened_L69 c gfu (0 : Int32) (0 : Int32) σ else if v2 = v1 then (fun v1 v2 σ => f_Cr_happened_L10 c n v1 v2 σ) v1 (v2 + (1 : Int32)) σ else if gix v2 10 then (f_T_within (σ.1 (c + 1) v2.toNatClampNeg) (6 : Int32)).bind fun q8 => if q8 = 0 then (fun v1 v2 σ => f_Cr_happened_L10 c n v1 v2 σ) v1 (v2 + (1 : Int32)) σ else if gix v2 10 then if gix (σ.1 (c + 1) v2.toNatClampNeg) 6 then if gix v2 10 then if gix (σ.1 (c + 1) v2.toNatClampNeg) 6 then gup (gpi σ (c + 3) (σ.1 (c + 1) v2.toNatClampNeg).toNatClampNeg ((σ.1 (c + 3) (σ.1 (c + 1) v2.toNatClampNeg).toNatClampNeg) ||| ((1 : Int32) <<< ((σ.1 (c + 2) v2.toNatClampNeg) &&& 31)))) fun s14 => (fun v1 v2 σ => f_Cr_happened_L10 c n v1 v2 σ) v1 (v2 + (1 : Int32)) s14 else none else none else none else none else none
theorem s_Cr_happened_L10 (d : Nat) (hd : 3 ≤ d) (c : Nat) (hc : gcls c = some 2) : ∀ (n : Nat) (v1 : Int32) (v2 : Int32) (σ : gS), S wI m_Cr_happened d 10 [some (.ref c), some (.int v1), some (.int v2), none] [] σ (f_Cr_happened_L10 c n v1 v2 σ) := by
  intro n
  induction n with
  | zero =>
    intros
    unfold f_Cr_happened_L10
    exact S.no
  | succ n ih =>
    intro v1 v2 σ
    unfold f_Cr_happened_L10
    refine S.of1 (pc2 := 11) (fun Q => g_iload_n d_Cr_happened_10 rfl) ?_
    refine S.of1 (pc2 := 12) (fun Q => g_aload_n d_Cr_happened_11 rfl) ?_
    refine S.of1 (pc2 := 15) (fun Q => g_geti fl_RX2_52 (gq_2_2 hc) d_Cr_happened_12) ?_
    refine S.br (c := (σ.1 c 2) ≤ v2) (t := 65) (e := 18) (fun Q kt kf => g_icmp_ge d_Cr_happened_15 rfl kt kf) (fun h2 => ?_) (fun h2 => ?_)
    · refine S.of1 (pc2 := 66) (fun Q => g_iconst (v := (0 : Int32)) d_Cr_happened_65 (by decide)) ?_
      refine S.of1 (pc2 := 67) (L2 := [some (.ref c), some (.int v1), some (.int (0 : Int32)), none]) (fun Q => g_istore_n d_Cr_happened_66 (Nat.le_of_ble_eq_true rfl) rfl) ?_
      refine S.of1 (pc2 := 68) (fun Q => g_iconst (v := (0 : Int32)) d_Cr_happened_67 (by decide)) ?_
      refine S.of1 (pc2 := 69) (L2 := [some (.ref c), some (.int v1), some (.int (0 : Int32)), some (.int (0 : Int32))]) (fun Q => g_istore_n d_Cr_happened_68 (Nat.le_of_ble_eq_true rfl) rfl) ?_
      exact S.wk (L2 := [some (.ref c), none, some (.int (0 : Int32)), some (.int (0 : Int32))]) (And.intro rfl (And.intro rfl (And.intro rfl trivial))) (s_Cr_happened_L69 d hd c hc gfu (0 : Int32) (0 : Int32) σ)
    · refine S.of1 (pc2 := 19) (fun Q => g_iload_n d_Cr_happened_18 rfl) ?_
      refine S.of1 (pc2 := 20) (fun Q => g_iload_n d_Cr_happened_19 rfl) ?_
      refine S.br (c := v2 = v1) (t := 59) (e := 23) (fun Q kt kf => g_icmp_eq d_Cr_happened_20 rfl kt kf) (fun h6 => ?_) (fun h6 => ?_)
      · refine S.of1 (pc2 := 62) (L2 := [some (.ref c), some (.int v1), some (.int (v2 + (1 : Int32))), none]) (fun Q => g_iinc d_Cr_happened_59 rfl (congrArg (fun z => v2 + z) (by decide)) (Nat.le_of_ble_eq_true rfl) rfl) ?_
        refine S.of1 (pc2 := 10) (fun Q => g_goto d_Cr_happened_62 rfl) ?_
        exact S.wk (L2 := [some (.ref c), some (.int v1), some (.int (v2 + (1 : Int32))), none]) (And.intro rfl (And.intro rfl (And.intro rfl trivial))) (ih v1 (v2 + (1 : Int32)) σ)
      · refine S.of1 (pc2 := 24) (fun Q => g_aload_n d_Cr_happened_23 rfl) ?_
        refine S.of1 (pc2 := 27) (fun Q => g_getr fl_RX2_9 (gq_2_0 hc) d_Cr_happened_24) ?_
        refine S.of1 (pc2 := 28) (fun Q => g_iload_n d_Cr_happened_27 rfl) ?_
        refine S.chk (fun h7 => ?_)
        refine S.of1 (pc2 := 29) (fun Q => g_iald (gp_2_0 hc) (gix_in h7) d_Cr_happened_28) ?_
        refine S.of1 (pc2 := 31) (fun Q => g_bipush (v := (6 : Int32)) d_Cr_happened_29 (by decide)) ?_
        refine S.call_rI (pc3 := 34) rfl (c_T_within (d - 1) (by omega) (σ.1 (c + 1) v2.toNatClampNeg) (6 : Int32) σ) (fun Q => g_callSN (M2 := m_T_within) (vs := [.int (σ.1 (c + 1) v2.toNatClampNeg), .int (6 : Int32)]) (st := []) ln_RX2_81 rfl (Nat.le_of_ble_eq_true rfl) (by omega) (Nat.le_of_ble_eq_true rfl) rfl d_Cr_happened_31) (fun q8 => ?_)
        refine S.br (c := q8 = 0) (t := 59) (e := 37) (fun Q kt kf => g_if_eq d_Cr_happened_34 rfl kt kf) (fun h9 => ?_) (fun h9 => ?_)
        · refine S.of1 (pc2 := 62) (L2 := [some (.ref c), some (.int v1), some (.int (v2 + (1 : Int32))), none]) (fun Q => g_iinc d_Cr_happened_59 rfl (congrArg (fun z => v2 + z) (by decide)) (Nat.le_of_ble_eq_true rfl) rfl) ?_
          refine S.of1 (pc2 := 10) (fun Q => g_goto d_Cr_happened_62 rfl) ?_
          exact S.wk (L2 := [some (.ref c), some (.int v1), some (.int (v2 + (1 : Int32))), none]) (And.intro rfl (And.intro rfl (And.intro rfl trivial))) (ih v1 (v2 + (1 : Int32)) σ)
        · refine S.of1 (pc2 := 38) (fun Q => g_aload_n d_Cr_happened_37 rfl) ?_
          refine S.of1 (pc2 := 41) (fun Q => g_getr fl_RX2_18 (gq_2_4 hc) d_Cr_happened_38) ?_
          refine S.of1 (pc2 := 42) (fun Q => g_aload_n d_Cr_happened_41 rfl) ?_
          refine S.of1 (pc2 := 45) (fun Q => g_getr fl_RX2_9 (gq_2_0 hc) d_Cr_happened_42) ?_
          refine S.of1 (pc2 := 46) (fun Q => g_iload_n d_Cr_happened_45 rfl) ?_
          refine S.chk (fun h10 => ?_)
          refine S.of1 (pc2 := 47) (fun Q => g_iald (gp_2_0 hc) (gix_in h10) d_Cr_happened_46) ?_
          refine S.of1 (pc2 := 48) (fun Q => g_dup2 d_Cr_happened_47 rfl rfl) ?_
          refine S.chk (fun h11 => ?_)
          refine S.of1 (pc2 := 49) (fun Q => g_iald (gp_2_4 hc) (gix_in h11) d_Cr_happened_48) ?_
          refine S.of1 (pc2 := 50) (fun Q => g_iconst (v := (1 : Int32)) d_Cr_happened_49 (by decide)) ?_
          refine S.of1 (pc2 := 51) (fun Q => g_aload_n d_Cr_happened_50 rfl) ?_
          refine S.of1 (pc2 := 54) (fun Q => g_getr fl_RX2_15 (gq_2_1 hc) d_Cr_happened_51) ?_
          refine S.of1 (pc2 := 55) (fun Q => g_iload_n d_Cr_happened_54 rfl) ?_
          refine S.chk (fun h12 => ?_)
          refine S.of1 (pc2 := 56) (fun Q => g_iald (gp_2_1 hc) (gix_in h12) d_Cr_happened_55) ?_
          refine S.of1 (pc2 := 57) (fun Q => g_ishl d_Cr_happened_56) ?_
          refine S.of1 (pc2 := 58) (fun Q => g_ior d_Cr_happened_57) ?_
          refine S.chk (fun h13 => ?_)
          refine S.of1 (pc2 := 59) (fun Q => g_iast (gp_2_4 hc) (gix_in h13) d_Cr_happened_58) ?_
          refine S.gup (fun s14 => ?_)
          refine S.of1 (pc2 := 62) (L2 := [some (.ref c), some (.int v1), some (.int (v2 + (1 : Int32))), none]) (fun Q => g_iinc d_Cr_happened_59 rfl (congrArg (fun z => v2 + z) (by decide)) (Nat.le_of_ble_eq_true rfl) rfl) ?_
          refine S.of1 (pc2 := 10) (fun Q => g_goto d_Cr_happened_62 rfl) ?_
          exact S.wk (L2 := [some (.ref c), some (.int v1), some (.int (v2 + (1 : Int32))), none]) (And.intro rfl (And.intro rfl (And.intro rfl trivial))) (ih v1 (v2 + (1 : Int32)) s14)
def f_Cr_happened (c : Nat) (v1 : Int32) (σ : gS) : Option (Int32 × gS) :=
  (f_JA_fill 6 (c + 3) (0 : Int32) σ).bind fun s1 => f_Cr_happened_L10 c gfu v1 (0 : Int32) s1
theorem c_Cr_happened (d : Nat) (hd : 3 ≤ d) (c : Nat) (hc : gcls c = some 2) (v1 : Int32) (σ : gS) : C wI d m_Cr_happened [.ref c, .int v1] σ (f_Cr_happened c v1 σ) := by
  unfold f_Cr_happened
  refine C.of (by decide +kernel) (Nat.le_of_ble_eq_true rfl) (L := [some (.ref c), some (.int v1), none, none]) rfl ?_
  refine S.of1 (pc2 := 1) (fun Q => g_aload_n d_Cr_happened_0 rfl) ?_
  refine S.of1 (pc2 := 4) (fun Q => g_getr fl_RX2_18 (gq_2_4 hc) d_Cr_happened_1) ?_
  refine S.of1 (pc2 := 5) (fun Q => g_iconst (v := (0 : Int32)) d_Cr_happened_4 (by decide)) ?_
  refine S.call_wV (pc3 := 8) rfl (c_JA_fill (d - 1) (by omega) 6 (by decide) (c + 3) (gp_2_4 hc) (0 : Int32) σ) (fun Q => g_callS (M2 := m_JA_fill) (vs := [.ref (c + 3), .int (0 : Int32)]) (st := []) ls_RX2_65 rfl (Nat.le_of_ble_eq_true rfl) (by omega) (Nat.le_of_ble_eq_true rfl) rfl d_Cr_happened_5) (fun s1 => ?_)
  refine S.of1 (pc2 := 9) (fun Q => g_iconst (v := (0 : Int32)) d_Cr_happened_8 (by decide)) ?_
  refine S.of1 (pc2 := 10) (L2 := [some (.ref c), some (.int v1), some (.int (0 : Int32)), none]) (fun Q => g_istore_n d_Cr_happened_9 (Nat.le_of_ble_eq_true rfl) rfl) ?_
  exact S.wk (L2 := [some (.ref c), some (.int v1), some (.int (0 : Int32)), none]) (And.intro rfl (And.intro rfl (And.intro rfl trivial))) (s_Cr_happened_L10 d hd c hc gfu v1 (0 : Int32) s1)
def f_T_all (v1 : Int32) (σ : gS) : Option (Int32 × gS) :=
  (f_T_within v1 (2 : Int32)).bind fun q1 => if q1 = 0 then some ((-1 : Int32), σ) else (f_Cr_gatherNow 11 σ).bind fun s3 => if v1 = 0 then (f_Cr_happened 11 (10 : Int32) s3).bind fun q5 => some (q5.1, q5.2) else (f_Cr_agreeing 11 s3).bind fun q6 => some (q6, s3)
theorem c_T_all (d : Nat) (hd : 6 ≤ d) (v1 : Int32) (σ : gS) : C wI d m_T_all [.ref 0, .int v1] σ (f_T_all v1 σ) := by
  unfold f_T_all
  refine C.of (by decide +kernel) (Nat.le_of_ble_eq_true rfl) (L := [some (.ref 0), some (.int v1)]) rfl ?_
  refine S.of1 (pc2 := 1) (fun Q => g_iload_n d_T_all_0 rfl) ?_
  refine S.of1 (pc2 := 2) (fun Q => g_iconst (v := (2 : Int32)) d_T_all_1 (by decide)) ?_
  refine S.call_rI (pc3 := 5) rfl (c_T_within (d - 1) (by omega) v1 (2 : Int32) σ) (fun Q => g_callS (M2 := m_T_within) (vs := [.int v1, .int (2 : Int32)]) (st := []) ls_RX10_72 rfl (Nat.le_of_ble_eq_true rfl) (by omega) (Nat.le_of_ble_eq_true rfl) rfl d_T_all_2) (fun q1 => ?_)
  refine S.br (c := q1 = 0) (t := 8) (e := 10) (fun Q kt kf => g_if_ne d_T_all_5 rfl kf kt) (fun h2 => ?_) (fun h2 => ?_)
  · refine S.of1 (pc2 := 9) (fun Q => g_iconst (v := (-1 : Int32)) d_T_all_8 (by decide)) ?_
    exact S.ret (fun Q hq => g_iret rfl d_T_all_9 hq)
  · refine S.of1 (pc2 := 11) (fun Q => g_aload_n d_T_all_10 rfl) ?_
    refine S.of1 (pc2 := 14) (fun Q => g_getr fl_RX10_19 gc_0_1 d_T_all_11) ?_
    refine S.of1 (pc2 := 15) (fun Q => g_aload_n d_T_all_14 rfl) ?_
    refine S.of1 (pc2 := 18) (fun Q => g_getr fl_RX10_10 gc_0_0 d_T_all_15) ?_
    refine S.call_wV (pc3 := 21) rfl (c_Cr_gatherNow (d - 1) (by omega) 11 gk_11 σ) (fun Q => g_callV (M2 := m_Cr_gatherNow) (vs := [.ref 1]) (st := []) lv_RX10_132 gk_11 rfl rfl (Nat.le_of_ble_eq_true rfl) (by omega) (Nat.le_of_ble_eq_true rfl) rfl d_T_all_18) (fun s3 => ?_)
    refine S.of1 (pc2 := 22) (fun Q => g_iload_n d_T_all_21 rfl) ?_
    refine S.br (c := v1 = 0) (t := 25) (e := 37) (fun Q kt kf => g_if_ne d_T_all_22 rfl kf kt) (fun h4 => ?_) (fun h4 => ?_)
    · refine S.of1 (pc2 := 26) (fun Q => g_aload_n d_T_all_25 rfl) ?_
      refine S.of1 (pc2 := 29) (fun Q => g_getr fl_RX10_19 gc_0_1 d_T_all_26) ?_
      refine S.of1 (pc2 := 31) (fun Q => g_bipush (v := (10 : Int32)) d_T_all_29 (by decide)) ?_
      refine S.call_wI (pc3 := 34) rfl (c_Cr_happened (d - 1) (by omega) 11 gk_11 (10 : Int32) s3) (fun Q => g_callV (M2 := m_Cr_happened) (vs := [.int (10 : Int32)]) (st := []) lv_RX10_136 gk_11 rfl rfl (Nat.le_of_ble_eq_true rfl) (by omega) (Nat.le_of_ble_eq_true rfl) rfl d_T_all_31) (fun q5 => ?_)
      refine S.of1 (pc2 := 44) (fun Q => g_goto d_T_all_34 rfl) ?_
      exact S.ret (fun Q hq => g_iret rfl d_T_all_44 hq)
    · refine S.of1 (pc2 := 38) (fun Q => g_aload_n d_T_all_37 rfl) ?_
      refine S.of1 (pc2 := 41) (fun Q => g_getr fl_RX10_19 gc_0_1 d_T_all_38) ?_
      refine S.call_rI (pc3 := 44) rfl (c_Cr_agreeing (d - 1) (by omega) 11 gk_11 s3) (fun Q => g_callV (M2 := m_Cr_agreeing) (vs := []) (st := []) lv_RX10_139 gk_11 rfl rfl (Nat.le_of_ble_eq_true rfl) (by omega) (Nat.le_of_ble_eq_true rfl) rfl d_T_all_41) (fun q6 => ?_)
      exact S.ret (fun Q hq => g_iret rfl d_T_all_44 hq)
def f_Cr_speakers_j42 (c : Nat) (σ : gS) (k5 : Int32 → Int32 → Int32 → Int32 → Option Int32) (v1 : Int32) (v2 : Int32) (v4 : Int32) (s0 : Int32) (s1 : Int32) : Option Int32 :=
  k5 v1 v2 (s1 + s0) (v4 + (1 : Int32))
theorem s_Cr_speakers_j42 (d : Nat) (hd : 1 ≤ d) (c : Nat) (hc : gcls c = some 2) (σ : gS) (k5 : Int32 → Int32 → Int32 → Int32 → Option Int32) (hk5 : ∀ (v1 : Int32) (v2 : Int32) (v3 : Int32) (v4 : Int32), S (rI σ) m_Cr_speakers d 5 [some (.ref c), some (.int v1), some (.int v2), some (.int v3), some (.int v4)] [] σ (k5 v1 v2 v3 v4)) (v1 : Int32) (v2 : Int32) (v4 : Int32) (s0 : Int32) (s1 : Int32) : S (rI σ) m_Cr_speakers d 42 [some (.ref c), some (.int v1), some (.int v2), none, some (.int v4)] [.int s0, .int s1] σ (f_Cr_speakers_j42 c σ k5 v1 v2 v4 s0 s1) := by
  unfold f_Cr_speakers_j42
  refine S.of1 (pc2 := 43) (fun Q => g_iadd d_Cr_speakers_42) ?_
  refine S.of1 (pc2 := 44) (L2 := [some (.ref c), some (.int v1), some (.int v2), some (.int (s1 + s0)), some (.int v4)]) (fun Q => g_istore_n d_Cr_speakers_43 (Nat.le_of_ble_eq_true rfl) rfl) ?_
  refine S.of1 (pc2 := 47) (L2 := [some (.ref c), some (.int v1), some (.int v2), some (.int (s1 + s0)), some (.int (v4 + (1 : Int32)))]) (fun Q => g_iinc d_Cr_speakers_44 rfl (congrArg (fun z => v4 + z) (by decide)) (Nat.le_of_ble_eq_true rfl) rfl) ?_
  refine S.of1 (pc2 := 5) (fun Q => g_goto d_Cr_speakers_47 rfl) ?_
  exact S.wk (L2 := [some (.ref c), some (.int v1), some (.int v2), some (.int (s1 + s0)), some (.int (v4 + (1 : Int32)))]) (And.intro rfl (And.intro rfl (And.intro rfl (And.intro rfl (And.intro rfl trivial))))) (hk5 v1 v2 (s1 + s0) (v4 + (1 : Int32)))
def f_Cr_speakers_j41 (c : Nat) (σ : gS) (k5 : Int32 → Int32 → Int32 → Int32 → Option Int32) (v1 : Int32) (v2 : Int32) (v4 : Int32) (s0 : Int32) : Option Int32 :=
  f_Cr_speakers_j42 c σ k5 v1 v2 v4 (0 : Int32) s0
theorem s_Cr_speakers_j41 (d : Nat) (hd : 1 ≤ d) (c : Nat) (hc : gcls c = some 2) (σ : gS) (k5 : Int32 → Int32 → Int32 → Int32 → Option Int32) (hk5 : ∀ (v1 : Int32) (v2 : Int32) (v3 : Int32) (v4 : Int32), S (rI σ) m_Cr_speakers d 5 [some (.ref c), some (.int v1), some (.int v2), some (.int v3), some (.int v4)] [] σ (k5 v1 v2 v3 v4)) (v1 : Int32) (v2 : Int32) (v4 : Int32) (s0 : Int32) : S (rI σ) m_Cr_speakers d 41 [some (.ref c), some (.int v1), some (.int v2), none, some (.int v4)] [.int s0] σ (f_Cr_speakers_j41 c σ k5 v1 v2 v4 s0) := by
  unfold f_Cr_speakers_j41
  refine S.of1 (pc2 := 42) (fun Q => g_iconst (v := (0 : Int32)) d_Cr_speakers_41 (by decide)) ?_
  exact S.wk (L2 := [some (.ref c), some (.int v1), some (.int v2), none, some (.int v4)]) (And.intro rfl (And.intro rfl (And.intro rfl (And.intro rfl trivial)))) (s_Cr_speakers_j42 d hd c hc σ k5 hk5 v1 v2 v4 (0 : Int32) s0)
def f_Cr_speakers_L5 (c : Nat) (σ : gS) : Nat → Int32 → Int32 → Int32 → Int32 → Option Int32
  | 0, _, _, _, _ => none
  | n + 1, v1, v2, v3, v4 =>
  if (σ.1 c 2) ≤ v4 then some v3 else if gix v4 10 then if (σ.1 (c + 1) v4.toNatClampNeg) < v1 then f_Cr_speakers_j41 c σ (fun v1 v2 v3 v4 => f_Cr_speakers_L5 c σ n v1 v2 v3 v4) v1 v2 v4 v3 else if gix v4 10 then if v2 < (σ.1 (c + 1) v4.toNatClampNeg) then f_Cr_speakers_j41 c σ (fun v1 v2 v3 v4 => f_Cr_speakers_L5 c σ n v1 v2 v3 v4) v1 v2 v4 v3 else f_Cr_speakers_j42 c σ (fun v1 v2 v3 v4 => f_Cr_speakers_L5 c σ n v1 v2 v3 v4) v1 v2 v4 (1 : Int32) v3 else none else none
theorem s_Cr_speakers_L5 (d : Nat) (hd : 1 ≤ d) (c : Nat) (hc : gcls c = some 2) (σ : gS) : ∀ (n : Nat) (v1 : Int32) (v2 : Int32) (v3 : Int32) (v4 : Int32), S (rI σ) m_Cr_speakers d 5 [some (.ref c), some (.int v1), some (.int v2), some (.int v3), some (.int v4)] [] σ (f_Cr_speakers_L5 c σ n v1 v2 v3 v4) := by
  intro n
  induction n with
  | zero =>
    intros
    unfold f_Cr_speakers_L5
    exact S.no
  | succ n ih =>
    intro v1 v2 v3 v4
    unfold f_Cr_speakers_L5
    refine S.of1 (pc2 := 7) (fun Q => g_iload d_Cr_speakers_5 rfl) ?_
    refine S.of1 (pc2 := 8) (fun Q => g_aload_n d_Cr_speakers_7 rfl) ?_
    refine S.of1 (pc2 := 11) (fun Q => g_geti fl_RX2_52 (gq_2_2 hc) d_Cr_speakers_8) ?_
    refine S.br (c := (σ.1 c 2) ≤ v4) (t := 50) (e := 14) (fun Q kt kf => g_icmp_ge d_Cr_speakers_11 rfl kt kf) (fun h1 => ?_) (fun h1 => ?_)
    · refine S.of1 (pc2 := 51) (fun Q => g_iload_n d_Cr_speakers_50 rfl) ?_
      exact S.ret (fun Q hq => g_iret rfl d_Cr_speakers_51 hq)
    · refine S.of1 (pc2 := 15) (fun Q => g_iload_n d_Cr_speakers_14 rfl) ?_
      refine S.of1 (pc2 := 16) (fun Q => g_aload_n d_Cr_speakers_15 rfl) ?_
      refine S.of1 (pc2 := 19) (fun Q => g_getr fl_RX2_9 (gq_2_0 hc) d_Cr_speakers_16) ?_
      refine S.of1 (pc2 := 21) (fun Q => g_iload d_Cr_speakers_19 rfl) ?_
      refine S.chk (fun h2 => ?_)
      refine S.of1 (pc2 := 22) (fun Q => g_iald (gp_2_0 hc) (gix_in h2) d_Cr_speakers_21) ?_
      refine S.of1 (pc2 := 23) (fun Q => g_iload_n d_Cr_speakers_22 rfl) ?_
      refine S.br (c := (σ.1 (c + 1) v4.toNatClampNeg) < v1) (t := 41) (e := 26) (fun Q kt kf => g_icmp_lt d_Cr_speakers_23 rfl kt kf) (fun h3 => ?_) (fun h3 => ?_)
      · exact S.wk (L2 := [some (.ref c), some (.int v1), some (.int v2), none, some (.int v4)]) (And.intro rfl (And.intro rfl (And.intro rfl (And.intro rfl trivial)))) (s_Cr_speakers_j41 d hd c hc σ (fun v1 v2 v3 v4 => f_Cr_speakers_L5 c σ n v1 v2 v3 v4) (fun v1 v2 v3 v4 => ih v1 v2 v3 v4) v1 v2 v4 v3)
      · refine S.of1 (pc2 := 27) (fun Q => g_aload_n d_Cr_speakers_26 rfl) ?_
        refine S.of1 (pc2 := 30) (fun Q => g_getr fl_RX2_9 (gq_2_0 hc) d_Cr_speakers_27) ?_
        refine S.of1 (pc2 := 32) (fun Q => g_iload d_Cr_speakers_30 rfl) ?_
        refine S.chk (fun h4 => ?_)
        refine S.of1 (pc2 := 33) (fun Q => g_iald (gp_2_0 hc) (gix_in h4) d_Cr_speakers_32) ?_
        refine S.of1 (pc2 := 34) (fun Q => g_iload_n d_Cr_speakers_33 rfl) ?_
        refine S.br (c := v2 < (σ.1 (c + 1) v4.toNatClampNeg)) (t := 41) (e := 37) (fun Q kt kf => g_icmp_gt d_Cr_speakers_34 rfl kt kf) (fun h5 => ?_) (fun h5 => ?_)
        · exact S.wk (L2 := [some (.ref c), some (.int v1), some (.int v2), none, some (.int v4)]) (And.intro rfl (And.intro rfl (And.intro rfl (And.intro rfl trivial)))) (s_Cr_speakers_j41 d hd c hc σ (fun v1 v2 v3 v4 => f_Cr_speakers_L5 c σ n v1 v2 v3 v4) (fun v1 v2 v3 v4 => ih v1 v2 v3 v4) v1 v2 v4 v3)
        · refine S.of1 (pc2 := 38) (fun Q => g_iconst (v := (1 : Int32)) d_Cr_speakers_37 (by decide)) ?_
          refine S.of1 (pc2 := 42) (fun Q => g_goto d_Cr_speakers_38 rfl) ?_
          exact S.wk (L2 := [some (.ref c), some (.int v1), some (.int v2), none, some (.int v4)]) (And.intro rfl (And.intro rfl (And.intro rfl (And.intro rfl trivial)))) (s_Cr_speakers_j42 d hd c hc σ (fun v1 v2 v3 v4 => f_Cr_speakers_L5 c σ n v1 v2 v3 v4) (fun v1 v2 v3 v4 => ih v1 v2 v3 v4) v1 v2 v4 (1 : Int32) v3)
def f_Cr_speakers (c : Nat) (v1 : Int32) (v2 : Int32) (σ : gS) : Option Int32 :=
  f_Cr_speakers_L5 c σ gfu v1 v2 (0 : Int32) (0 : Int32)
theorem c_Cr_speakers (d : Nat) (hd : 1 ≤ d) (c : Nat) (hc : gcls c = some 2) (v1 : Int32) (v2 : Int32) (σ : gS) : C (rI σ) d m_Cr_speakers [.ref c, .int v1, .int v2] σ (f_Cr_speakers c v1 v2 σ) := by
  unfold f_Cr_speakers
  refine C.of (by decide +kernel) (Nat.le_of_ble_eq_true rfl) (L := [some (.ref c), some (.int v1), some (.int v2), none, none]) rfl ?_
  refine S.of1 (pc2 := 1) (fun Q => g_iconst (v := (0 : Int32)) d_Cr_speakers_0 (by decide)) ?_
  refine S.of1 (pc2 := 2) (L2 := [some (.ref c), some (.int v1), some (.int v2), some (.int (0 : Int32)), none]) (fun Q => g_istore_n d_Cr_speakers_1 (Nat.le_of_ble_eq_true rfl) rfl) ?_
  refine S.of1 (pc2 := 3) (fun Q => g_iconst (v := (0 : Int32)) d_Cr_speakers_2 (by decide)) ?_
  refine S.of1 (pc2 := 5) (L2 := [some (.ref c), some (.int v1), some (.int v2), some (.int (0 : Int32)), some (.int (0 : Int32))]) (fun Q => g_istore d_Cr_speakers_3 (Nat.le_of_ble_eq_true rfl) rfl) ?_
  exact S.wk (L2 := [some (.ref c), some (.int v1), some (.int v2), some (.int (0 : Int32)), some (.int (0 : Int32))]) (And.intro rfl (And.intro rfl (And.intro rfl (And.intro rfl (And.intro rfl trivial))))) (s_Cr_speakers_L5 d hd c hc σ gfu v1 v2 (0 : Int32) (0 : Int32))
def f_T_saying (v1 : Int32) (σ : gS) : Option (Int32 × gS) :=
  (f_T_within v1 (6 : Int32)).bind fun q1 => if q1 = 0 then some ((-1 : Int32), σ) else (f_Cr_gatherNow 11 σ).bind fun s3 => (f_Cr_speakers 11 v1 v1 s3).bind fun q4 => some (q4, s3)
theorem c_T_saying (d : Nat) (hd : 6 ≤ d) (v1 : Int32) (σ : gS) : C wI d m_T_saying [.ref 0, .int v1] σ (f_T_saying v1 σ) := by
  unfold f_T_saying
  refine C.of (by decide +kernel) (Nat.le_of_ble_eq_true rfl) (L := [some (.ref 0), some (.int v1)]) rfl ?_
  refine S.of1 (pc2 := 1) (fun Q => g_iload_n d_T_saying_0 rfl) ?_
  refine S.of1 (pc2 := 3) (fun Q => g_bipush (v := (6 : Int32)) d_T_saying_1 (by decide)) ?_
  refine S.call_rI (pc3 := 6) rfl (c_T_within (d - 1) (by omega) v1 (6 : Int32) σ) (fun Q => g_callS (M2 := m_T_within) (vs := [.int v1, .int (6 : Int32)]) (st := []) ls_RX10_72 rfl (Nat.le_of_ble_eq_true rfl) (by omega) (Nat.le_of_ble_eq_true rfl) rfl d_T_saying_3) (fun q1 => ?_)
  refine S.br (c := q1 = 0) (t := 9) (e := 11) (fun Q kt kf => g_if_ne d_T_saying_6 rfl kf kt) (fun h2 => ?_) (fun h2 => ?_)
  · refine S.of1 (pc2 := 10) (fun Q => g_iconst (v := (-1 : Int32)) d_T_saying_9 (by decide)) ?_
    exact S.ret (fun Q hq => g_iret rfl d_T_saying_10 hq)
  · refine S.of1 (pc2 := 12) (fun Q => g_aload_n d_T_saying_11 rfl) ?_
    refine S.of1 (pc2 := 15) (fun Q => g_getr fl_RX10_19 gc_0_1 d_T_saying_12) ?_
    refine S.of1 (pc2 := 16) (fun Q => g_aload_n d_T_saying_15 rfl) ?_
    refine S.of1 (pc2 := 19) (fun Q => g_getr fl_RX10_10 gc_0_0 d_T_saying_16) ?_
    refine S.call_wV (pc3 := 22) rfl (c_Cr_gatherNow (d - 1) (by omega) 11 gk_11 σ) (fun Q => g_callV (M2 := m_Cr_gatherNow) (vs := [.ref 1]) (st := []) lv_RX10_132 gk_11 rfl rfl (Nat.le_of_ble_eq_true rfl) (by omega) (Nat.le_of_ble_eq_true rfl) rfl d_T_saying_19) (fun s3 => ?_)
    refine S.of1 (pc2 := 23) (fun Q => g_aload_n d_T_saying_22 rfl) ?_
    refine S.of1 (pc2 := 26) (fun Q => g_getr fl_RX10_19 gc_0_1 d_T_saying_23) ?_
    refine S.of1 (pc2 := 27) (fun Q => g_iload_n d_T_saying_26 rfl) ?_
    refine S.of1 (pc2 := 28) (fun Q => g_iload_n d_T_saying_27 rfl) ?_
    refine S.call_rI (pc3 := 31) rfl (c_Cr_speakers (d - 1) (by omega) 11 gk_11 v1 v1 s3) (fun Q => g_callV (M2 := m_Cr_speakers) (vs := [.int v1, .int v1]) (st := []) lv_RX10_143 gk_11 rfl rfl (Nat.le_of_ble_eq_true rfl) (by omega) (Nat.le_of_ble_eq_true rfl) rfl d_T_saying_28) (fun q4 => ?_)
    exact S.ret (fun Q hq => g_iret rfl d_T_saying_31 hq)
def f_T_has (v0 : Int32) (v1 : Int32) : Option Int32 :=
  if ((gush v0 v1) &&& (1 : Int32)) = 0 then some (0 : Int32) else some (1 : Int32)
theorem c_T_has (d : Nat) (hd : 1 ≤ d) (v0 : Int32) (v1 : Int32) (σ : gS) : C (rI σ) d m_T_has [.int v0, .int v1] σ (f_T_has v0 v1) := by
  unfold f_T_has
  refine C.of (by decide +kernel) (Nat.le_of_ble_eq_true rfl) (L := [some (.int v0), some (.int v1)]) rfl ?_
  refine S.of1 (pc2 := 1) (fun Q => g_iload_n d_T_has_0 rfl) ?_
  refine S.of1 (pc2 := 2) (fun Q => g_iload_n d_T_has_1 rfl) ?_
  refine S.of1 (pc2 := 3) (fun Q => g_iushr d_T_has_2) ?_
  refine S.of1 (pc2 := 4) (fun Q => g_iconst (v := (1 : Int32)) d_T_has_3 (by decide)) ?_
  refine S.of1 (pc2 := 5) (fun Q => g_iand d_T_has_4) ?_
  refine S.br (c := ((gush v0 v1) &&& (1 : Int32)) = 0) (t := 12) (e := 8) (fun Q kt kf => g_if_eq d_T_has_5 rfl kt kf) (fun h1 => ?_) (fun h1 => ?_)
  · refine S.of1 (pc2 := 13) (fun Q => g_iconst (v := (0 : Int32)) d_T_has_12 (by decide)) ?_
    exact S.ret (fun Q hq => g_zret rfl rfl d_T_has_13 hq)
  · refine S.of1 (pc2 := 9) (fun Q => g_iconst (v := (1 : Int32)) d_T_has_8 (by decide)) ?_
    refine S.of1 (pc2 := 13) (fun Q => g_goto d_T_has_9 rfl) ?_
    exact S.ret (fun Q hq => g_zret rfl rfl d_T_has_13 hq)
def f_Cr_metBy_L5 (c : Nat) (σ : gS) : Nat → Int32 → Int32 → Int32 → Int32 → Option Int32
  | 0, _, _, _, _ => none
  | n + 1, v1, v2, v3, v4 =>
  if (σ.1 c 2) ≤ v4 then some v3 else (f_T_within v1 (σ.1 c 2)).bind fun q2 => if q2 = 0 then (fun v1 v2 v3 v4 => f_Cr_metBy_L5 c σ n v1 v2 v3 v4) v1 v2 v3 (v4 + (1 : Int32)) else (f_T_has v2 v4).bind fun q4 => if q4 = 0 then (fun v1 v2 v3 v4 => f_Cr_metBy_L5 c σ n v1 v2 v3 v4) v1 v2 v3 (v4 + (1 : Int32)) else (f_T_has v2 v1).bind fun q6 => if q6 = 0 then (f_Cr_agree c v1 v4 σ).bind fun q8 => if q8 = 0 then (fun v1 v2 v3 v4 => f_Cr_metBy_L5 c σ n v1 v2 v3 v4) v1 v2 v3 (v4 + (1 : Int32)) else if gix v1 10 then if gix v4 10 then glt (v3 ||| ((1 : Int32) <<< ((gmin (σ.1 (c + 1) v1.toNatClampNeg) (σ.1 (c + 1) v4.toNatClampNeg)) &&& 31))) fun x12 => (fun v1 v2 v3 v4 => f_Cr_metBy_L5 c σ n v1 v2 v3 v4) v1 v2 x12 (v4 + (1 : Int32)) else none else none else (fun v1 v2 v3 v4 => f_Cr_metBy_L5 c σ n v1 v2 v3 v4) v1 v2 v3 (v4 + (1 : Int32))
theorem s_Cr_metBy_L5 (d : Nat) (hd : 3 ≤ d) (c : Nat) (hc : gcls c = some 2) (σ : gS) : ∀ (n : Nat) (v1 : Int32) (v2 : Int32) (v3 : Int32) (v4 : Int32), S (rI σ) m_Cr_metBy d 5 [some (.ref c), some (.int v1), some (.int v2), some (.int v3), some (.int v4)] [] σ (f_Cr_metBy_L5 c σ n v1 v2 v3 v4) := by
  intro n
  induction n with
  | zero =>
    intros
    unfold f_Cr_metBy_L5
    exact S.no
  | succ n ih =>
    intro v1 v2 v3 v4
    unfold f_Cr_metBy_L5
    refine S.of1 (pc2 := 7) (fun Q => g_iload d_Cr_metBy_5 rfl) ?_
    refine S.of1 (pc2 := 8) (fun Q => g_aload_n d_Cr_metBy_7 rfl) ?_
    refine S.of1 (pc2 := 11) (fun Q => g_geti fl_RX2_52 (gq_2_2 hc) d_Cr_metBy_8) ?_
    refine S.br (c := (σ.1 c 2) ≤ v4) (t := 79) (e := 14) (fun Q kt kf => g_icmp_ge d_Cr_metBy_11 rfl kt kf) (fun h1 => ?_) (fun h1 => ?_)
    · refine S.of1 (pc2 := 80) (fun Q => g_iload_n d_Cr_metBy_79 rfl) ?_
      exact S.ret (fun Q hq => g_iret rfl d_Cr_metBy_80 hq)
    · refine S.of1 (pc2 := 15) (fun Q => g_iload_n d_Cr_metBy_14 rfl) ?_
      refine S.of1 (pc2 := 16) (fun Q => g_aload_n d_Cr_metBy_15 rfl) ?_
      refine S.of1 (pc2 := 19) (fun Q => g_geti fl_RX2_52 (gq_2_2 hc) d_Cr_metBy_16) ?_
      refine S.call_rI (pc3 := 22) rfl (c_T_within (d - 1) (by omega) v1 (σ.1 c 2) σ) (fun Q => g_callSN (M2 := m_T_within) (vs := [.int v1, .int (σ.1 c 2)]) (st := []) ln_RX2_81 rfl (Nat.le_of_ble_eq_true rfl) (by omega) (Nat.le_of_ble_eq_true rfl) rfl d_Cr_metBy_19) (fun q2 => ?_)
      refine S.br (c := q2 = 0) (t := 73) (e := 25) (fun Q kt kf => g_if_eq d_Cr_metBy_22 rfl kt kf) (fun h3 => ?_) (fun h3 => ?_)
      · refine S.of1 (pc2 := 76) (L2 := [some (.ref c), some (.int v1), some (.int v2), some (.int v3), some (.int (v4 + (1 : Int32)))]) (fun Q => g_iinc d_Cr_metBy_73 rfl (congrArg (fun z => v4 + z) (by decide)) (Nat.le_of_ble_eq_true rfl) rfl) ?_
        refine S.of1 (pc2 := 5) (fun Q => g_goto d_Cr_metBy_76 rfl) ?_
        exact S.wk (L2 := [some (.ref c), some (.int v1), some (.int v2), some (.int v3), some (.int (v4 + (1 : Int32)))]) (And.intro rfl (And.intro rfl (And.intro rfl (And.intro rfl (And.intro rfl trivial))))) (ih v1 v2 v3 (v4 + (1 : Int32)))
      · refine S.of1 (pc2 := 26) (fun Q => g_iload_n d_Cr_metBy_25 rfl) ?_
        refine S.of1 (pc2 := 28) (fun Q => g_iload d_Cr_metBy_26 rfl) ?_
        refine S.call_rI (pc3 := 31) rfl (c_T_has (d - 1) (by omega) v2 v4 σ) (fun Q => g_callSN (M2 := m_T_has) (vs := [.int v2, .int v4]) (st := []) ln_RX2_97 rfl (Nat.le_of_ble_eq_true rfl) (by omega) (Nat.le_of_ble_eq_true rfl) rfl d_Cr_metBy_28) (fun q4 => ?_)
        refine S.br (c := q4 = 0) (t := 73) (e := 34) (fun Q kt kf => g_if_eq d_Cr_metBy_31 rfl kt kf) (fun h5 => ?_) (fun h5 => ?_)
        · refine S.of1 (pc2 := 76) (L2 := [some (.ref c), some (.int v1), some (.int v2), some (.int v3), some (.int (v4 + (1 : Int32)))]) (fun Q => g_iinc d_Cr_metBy_73 rfl (congrArg (fun z => v4 + z) (by decide)) (Nat.le_of_ble_eq_true rfl) rfl) ?_
          refine S.of1 (pc2 := 5) (fun Q => g_goto d_Cr_metBy_76 rfl) ?_
          exact S.wk (L2 := [some (.ref c), some (.int v1), some (.int v2), some (.int v3), some (.int (v4 + (1 : Int32)))]) (And.intro rfl (And.intro rfl (And.intro rfl (And.intro rfl (And.intro rfl trivial))))) (ih v1 v2 v3 (v4 + (1 : Int32)))
        · refine S.of1 (pc2 := 35) (fun Q => g_iload_n d_Cr_metBy_34 rfl) ?_
          refine S.of1 (pc2 := 36) (fun Q => g_iload_n d_Cr_metBy_35 rfl) ?_
          refine S.call_rI (pc3 := 39) rfl (c_T_has (d - 1) (by omega) v2 v1 σ) (fun Q => g_callSN (M2 := m_T_has) (vs := [.int v2, .int v1]) (st := []) ln_RX2_97 rfl (Nat.le_of_ble_eq_true rfl) (by omega) (Nat.le_of_ble_eq_true rfl) rfl d_Cr_metBy_36) (fun q6 => ?_)
          refine S.br (c := q6 = 0) (t := 42) (e := 73) (fun Q kt kf => g_if_ne d_Cr_metBy_39 rfl kf kt) (fun h7 => ?_) (fun h7 => ?_)
          · refine S.of1 (pc2 := 43) (fun Q => g_aload_n d_Cr_metBy_42 rfl) ?_
            refine S.of1 (pc2 := 44) (fun Q => g_iload_n d_Cr_metBy_43 rfl) ?_
            refine S.of1 (pc2 := 46) (fun Q => g_iload d_Cr_metBy_44 rfl) ?_
            refine S.call_rI (pc3 := 49) rfl (c_Cr_agree (d - 1) (by omega) c hc v1 v4 σ) (fun Q => g_callV (M2 := m_Cr_agree) (vs := [.int v1, .int v4]) (st := []) lv_RX2_100 hc rfl rfl (Nat.le_of_ble_eq_true rfl) (by omega) (Nat.le_of_ble_eq_true rfl) rfl d_Cr_metBy_46) (fun q8 => ?_)
            refine S.br (c := q8 = 0) (t := 73) (e := 52) (fun Q kt kf => g_if_eq d_Cr_metBy_49 rfl kt kf) (fun h9 => ?_) (fun h9 => ?_)
            · refine S.of1 (pc2 := 76) (L2 := [some (.ref c), some (.int v1), some (.int v2), some (.int v3), some (.int (v4 + (1 : Int32)))]) (fun Q => g_iinc d_Cr_metBy_73 rfl (congrArg (fun z => v4 + z) (by decide)) (Nat.le_of_ble_eq_true rfl) rfl) ?_
              refine S.of1 (pc2 := 5) (fun Q => g_goto d_Cr_metBy_76 rfl) ?_
              exact S.wk (L2 := [some (.ref c), some (.int v1), some (.int v2), some (.int v3), some (.int (v4 + (1 : Int32)))]) (And.intro rfl (And.intro rfl (And.intro rfl (And.intro rfl (And.intro rfl trivial))))) (ih v1 v2 v3 (v4 + (1 : Int32)))
            · refine S.of1 (pc2 := 53) (fun Q => g_iload_n d_Cr_metBy_52 rfl) ?_
              refine S.of1 (pc2 := 54) (fun Q => g_iconst (v := (1 : Int32)) d_Cr_metBy_53 (by decide)) ?_
              refine S.of1 (pc2 := 55) (fun Q => g_aload_n d_Cr_metBy_54 rfl) ?_
              refine S.of1 (pc2 := 58) (fun Q => g_getr fl_RX2_9 (gq_2_0 hc) d_Cr_metBy_55) ?_
              refine S.of1 (pc2 := 59) (fun Q => g_iload_n d_Cr_metBy_58 rfl) ?_
              refine S.chk (fun h10 => ?_)
              refine S.of1 (pc2 := 60) (fun Q => g_iald (gp_2_0 hc) (gix_in h10) d_Cr_metBy_59) ?_
              refine S.of1 (pc2 := 61) (fun Q => g_aload_n d_Cr_metBy_60 rfl) ?_
              refine S.of1 (pc2 := 64) (fun Q => g_getr fl_RX2_9 (gq_2_0 hc) d_Cr_metBy_61) ?_
              refine S.of1 (pc2 := 66) (fun Q => g_iload d_Cr_metBy_64 rfl) ?_
              refine S.chk (fun h11 => ?_)
              refine S.of1 (pc2 := 67) (fun Q => g_iald (gp_2_0 hc) (gix_in h11) d_Cr_metBy_66) ?_
              refine S.of1 (pc2 := 70) (fun Q => g_mmin w_721 w_600 w_91 wc_min (by omega) (Nat.le_of_ble_eq_true rfl) d_Cr_metBy_67) ?_
              refine S.of1 (pc2 := 71) (fun Q => g_ishl d_Cr_metBy_70) ?_
              refine S.of1 (pc2 := 72) (fun Q => g_ior d_Cr_metBy_71) ?_
              refine S.of1 (pc2 := 73) (L2 := [some (.ref c), some (.int v1), some (.int v2), some (.int (v3 ||| ((1 : Int32) <<< ((gmin (σ.1 (c + 1) v1.toNatClampNeg) (σ.1 (c + 1) v4.toNatClampNeg)) &&& 31)))), some (.int v4)]) (fun Q => g_istore_n d_Cr_metBy_72 (Nat.le_of_ble_eq_true rfl) rfl) ?_
              refine S.glt (x := (v3 ||| ((1 : Int32) <<< ((gmin (σ.1 (c + 1) v1.toNatClampNeg) (σ.1 (c + 1) v4.toNatClampNeg)) &&& 31)))) (Lf := fun y => [some (.ref c), some (.int v1), some (.int v2), some (.int y), some (.int v4)]) (fun x12 => ?_)
              refine S.of1 (pc2 := 76) (L2 := [some (.ref c), some (.int v1), some (.int v2), some (.int x12), some (.int (v4 + (1 : Int32)))]) (fun Q => g_iinc d_Cr_metBy_73 rfl (congrArg (fun z => v4 + z) (by decide)) (Nat.le_of_ble_eq_true rfl) rfl) ?_
              refine S.of1 (pc2 := 5) (fun Q => g_goto d_Cr_metBy_76 rfl) ?_
              exact S.wk (L2 := [some (.ref c), some (.int v1), some (.int v2), some (.int x12), some (.int (v4 + (1 : Int32)))]) (And.intro rfl (And.intro rfl (And.intro rfl (And.intro rfl (And.intro rfl trivial))))) (ih v1 v2 x12 (v4 + (1 : Int32)))
          · refine S.of1 (pc2 := 76) (L2 := [some (.ref c), some (.int v1), some (.int v2), some (.int v3), some (.int (v4 + (1 : Int32)))]) (fun Q => g_iinc d_Cr_metBy_73 rfl (congrArg (fun z => v4 + z) (by decide)) (Nat.le_of_ble_eq_true rfl) rfl) ?_
            refine S.of1 (pc2 := 5) (fun Q => g_goto d_Cr_metBy_76 rfl) ?_
            exact S.wk (L2 := [some (.ref c), some (.int v1), some (.int v2), some (.int v3), some (.int (v4 + (1 : Int32)))]) (And.intro rfl (And.intro rfl (And.intro rfl (And.intro rfl (And.intro rfl trivial))))) (ih v1 v2 v3 (v4 + (1 : Int32)))
def f_Cr_metBy (c : Nat) (v1 : Int32) (v2 : Int32) (σ : gS) : Option Int32 :=
  f_Cr_metBy_L5 c σ gfu v1 v2 (0 : Int32) (0 : Int32)
theorem c_Cr_metBy (d : Nat) (hd : 3 ≤ d) (c : Nat) (hc : gcls c = some 2) (v1 : Int32) (v2 : Int32) (σ : gS) : C (rI σ) d m_Cr_metBy [.ref c, .int v1, .int v2] σ (f_Cr_metBy c v1 v2 σ) := by
  unfold f_Cr_metBy
  refine C.of (by decide +kernel) (Nat.le_of_ble_eq_true rfl) (L := [some (.ref c), some (.int v1), some (.int v2), none, none]) rfl ?_
  refine S.of1 (pc2 := 1) (fun Q => g_iconst (v := (0 : Int32)) d_Cr_metBy_0 (by decide)) ?_
  refine S.of1 (pc2 := 2) (L2 := [some (.ref c), some (.int v1), some (.int v2), some (.int (0 : Int32)), none]) (fun Q => g_istore_n d_Cr_metBy_1 (Nat.le_of_ble_eq_true rfl) rfl) ?_
  refine S.of1 (pc2 := 3) (fun Q => g_iconst (v := (0 : Int32)) d_Cr_metBy_2 (by decide)) ?_
  refine S.of1 (pc2 := 5) (L2 := [some (.ref c), some (.int v1), some (.int v2), some (.int (0 : Int32)), some (.int (0 : Int32))]) (fun Q => g_istore d_Cr_metBy_3 (Nat.le_of_ble_eq_true rfl) rfl) ?_
  exact S.wk (L2 := [some (.ref c), some (.int v1), some (.int v2), some (.int (0 : Int32)), some (.int (0 : Int32))]) (And.intro rfl (And.intro rfl (And.intro rfl (And.intro rfl (And.intro rfl trivial))))) (s_Cr_metBy_L5 d hd c hc σ gfu v1 v2 (0 : Int32) (0 : Int32))
def f_Sh_refusal (c : Nat) (σ : gS) : Option Int32 :=
  if (σ.1 c 1) = 0 then some (-11 : Int32) else some (-12 : Int32)
theorem c_Sh_refusal (d : Nat) (hd : 1 ≤ d) (c : Nat) (hc : gcls c = some 8) (σ : gS) : C (rI σ) d m_Sh_refusal [.ref c] σ (f_Sh_refusal c σ) := by
  unfold f_Sh_refusal
  refine C.of (by decide +kernel) (Nat.le_of_ble_eq_true rfl) (L := [some (.ref c)]) rfl ?_
  refine S.of1 (pc2 := 1) (fun Q => g_aload_n d_Sh_refusal_0 rfl) ?_
  refine S.of1 (pc2 := 4) (fun Q => g_geti fl_RX8_15 (gq_8_1 hc) d_Sh_refusal_1) ?_
  refine S.br (c := (σ.1 c 1) = 0) (t := 7) (e := 12) (fun Q kt kf => g_if_ne d_Sh_refusal_4 rfl kf kt) (fun h1 => ?_) (fun h1 => ?_)
  · refine S.of1 (pc2 := 9) (fun Q => g_bipush (v := (-11 : Int32)) d_Sh_refusal_7 (by decide)) ?_
    refine S.of1 (pc2 := 14) (fun Q => g_goto d_Sh_refusal_9 rfl) ?_
    exact S.ret (fun Q hq => g_iret rfl d_Sh_refusal_14 hq)
  · refine S.of1 (pc2 := 14) (fun Q => g_bipush (v := (-12 : Int32)) d_Sh_refusal_12 (by decide)) ?_
    exact S.ret (fun Q hq => g_iret rfl d_Sh_refusal_14 hq)
def f_T_claims_j162 (v3 : Int32) (v5 : Int32) (v6 : Int32) (v7 : Int32) (σ : gS) : Option (Int32 × gS) :=
  if v3 = 0 then some (v6, σ) else if v3 = (1 : Int32) then some (v7, σ) else (f_JI_bitCount v5).bind fun q15 => some (q15, σ)
theorem s_T_claims_j162 (d : Nat) (hd : 6 ≤ d) (v3 : Int32) (v5 : Int32) (v6 : Int32) (v7 : Int32) (σ : gS) : S wI m_T_claims d 162 [none, none, none, some (.int v3), none, some (.int v5), some (.int v6), some (.int v7), none, none] [] σ (f_T_claims_j162 v3 v5 v6 v7 σ) := by
  unfold f_T_claims_j162
  refine S.of1 (pc2 := 163) (fun Q => g_iload_n d_T_claims_162 rfl) ?_
  refine S.br (c := v3 = 0) (t := 166) (e := 171) (fun Q kt kf => g_if_ne d_T_claims_163 rfl kf kt) (fun h13 => ?_) (fun h13 => ?_)
  · refine S.of1 (pc2 := 168) (fun Q => g_iload d_T_claims_166 rfl) ?_
    refine S.of1 (pc2 := 186) (fun Q => g_goto d_T_claims_168 rfl) ?_
    exact S.ret (fun Q hq => g_iret rfl d_T_claims_186 hq)
  · refine S.of1 (pc2 := 172) (fun Q => g_iload_n d_T_claims_171 rfl) ?_
    refine S.of1 (pc2 := 173) (fun Q => g_iconst (v := (1 : Int32)) d_T_claims_172 (by decide)) ?_
    refine S.br (c := v3 = (1 : Int32)) (t := 176) (e := 181) (fun Q kt kf => g_icmp_ne d_T_claims_173 rfl kf kt) (fun h14 => ?_) (fun h14 => ?_)
    · refine S.of1 (pc2 := 178) (fun Q => g_iload d_T_claims_176 rfl) ?_
      refine S.of1 (pc2 := 186) (fun Q => g_goto d_T_claims_178 rfl) ?_
      exact S.ret (fun Q hq => g_iret rfl d_T_claims_186 hq)
    · refine S.of1 (pc2 := 183) (fun Q => g_iload d_T_claims_181 rfl) ?_
      refine S.call_rI (pc3 := 186) rfl (c_JI_bitCount (d - 1) (by omega) v5 σ) (fun Q => g_callS (M2 := m_JI_bitCount) (vs := [.int v5]) (st := []) ls_RX10_155 rfl (Nat.le_of_ble_eq_true rfl) (by omega) (Nat.le_of_ble_eq_true rfl) rfl d_T_claims_183) (fun q15 => ?_)
      exact S.ret (fun Q hq => g_iret rfl d_T_claims_186 hq)
def f_T_claims_j135 (k75 : Int32 → Int32 → Nat → Int32 → Int32 → Int32 → Int32 → gS → Option (Int32 × gS)) (v2 : Int32) (v3 : Int32) (q4 : Nat) (v5 : Int32) (v6 : Int32) (v7 : Int32) (v8 : Int32) (v9 : Int32) (σ : gS) : Option (Int32 × gS) :=
  (f_Sh_small q4 v8 σ).bind fun q22 => glt (v5 ||| ((1 : Int32) <<< (q22 &&& 31))) fun x23 => k75 v2 v3 q4 x23 (v6 ||| v9) v7 (v8 + (1 : Int32)) σ
theorem s_T_claims_j135 (d : Nat) (hd : 6 ≤ d) (k75 : Int32 → Int32 → Nat → Int32 → Int32 → Int32 → Int32 → gS → Option (Int32 × gS)) (hk75 : ∀ (v2 : Int32) (v3 : Int32) (q4 : Nat) (hq4 : gcls q4 = some 8) (v5 : Int32) (v6 : Int32) (v7 : Int32) (v8 : Int32) (τ : gS), S wI m_T_claims d 75 [some (.ref 0), none, some (.int v2), some (.int v3), some (.ref q4), some (.int v5), some (.int v6), some (.int v7), some (.int v8), none] [] τ (k75 v2 v3 q4 v5 v6 v7 v8 τ)) (v2 : Int32) (v3 : Int32) (q4 : Nat) (hq4 : gcls q4 = some 8) (v5 : Int32) (v6 : Int32) (v7 : Int32) (v8 : Int32) (v9 : Int32) (σ : gS) : S wI m_T_claims d 135 [some (.ref 0), none, some (.int v2), some (.int v3), some (.ref q4), some (.int v5), some (.int v6), some (.int v7), some (.int v8), some (.int v9)] [] σ (f_T_claims_j135 k75 v2 v3 q4 v5 v6 v7 v8 v9 σ) := by
  unfold f_T_claims_j135
  refine S.of1 (pc2 := 137) (fun Q => g_iload d_T_claims_135 rfl) ?_
  refine S.of1 (pc2 := 139) (fun Q => g_iload d_T_claims_137 rfl) ?_
  refine S.of1 (pc2 := 140) (fun Q => g_ior d_T_claims_139) ?_
  refine S.of1 (pc2 := 142) (L2 := [some (.ref 0), none, some (.int v2), some (.int v3), some (.ref q4), some (.int v5), some (.int (v6 ||| v9)), some (.int v7), some (.int v8), some (.int v9)]) (fun Q => g_istore d_T_claims_140 (Nat.le_of_ble_eq_true rfl) rfl) ?_
  refine S.of1 (pc2 := 144) (fun Q => g_iload d_T_claims_142 rfl) ?_
  refine S.of1 (pc2 := 145) (fun Q => g_iconst (v := (1 : Int32)) d_T_claims_144 (by decide)) ?_
  refine S.of1 (pc2 := 147) (fun Q => g_aload d_T_claims_145 rfl) ?_
  refine S.of1 (pc2 := 149) (fun Q => g_iload d_T_claims_147 rfl) ?_
  refine S.call_rI (pc3 := 152) rfl (c_Sh_small (d - 1) (by omega) q4 hq4 v8 σ) (fun Q => g_callV (M2 := m_Sh_small) (vs := [.int v8]) (st := [.int (1 : Int32), .int v5]) lv_RX10_149 hq4 rfl rfl (Nat.le_of_ble_eq_true rfl) (by omega) (Nat.le_of_ble_eq_true rfl) rfl d_T_claims_149) (fun q22 => ?_)
  refine S.of1 (pc2 := 153) (fun Q => g_ishl d_T_claims_152) ?_
  refine S.of1 (pc2 := 154) (fun Q => g_ior d_T_claims_153) ?_
  refine S.of1 (pc2 := 156) (L2 := [some (.ref 0), none, some (.int v2), some (.int v3), some (.ref q4), some (.int (v5 ||| ((1 : Int32) <<< (q22 &&& 31)))), some (.int (v6 ||| v9)), some (.int v7), some (.int v8), some (.int v9)]) (fun Q => g_istore d_T_claims_154 (Nat.le_of_ble_eq_true rfl) rfl) ?_
  refine S.glt (x := (v5 ||| ((1 : Int32) <<< (q22 &&& 31)))) (Lf := fun y => [some (.ref 0), none, some (.int v2), some (.int v3), some (.ref q4), some (.int y), some (.int (v6 ||| v9)), some (.int v7), some (.int v8), some (.int v9)]) (fun x23 => ?_)
  refine S.of1 (pc2 := 159) (L2 := [some (.ref 0), none, some (.int v2), some (.int v3), some (.ref q4), some (.int x23), some (.int (v6 ||| v9)), some (.int v7), some (.int (v8 + (1 : Int32))), some (.int v9)]) (fun Q => g_iinc d_T_claims_156 rfl (congrArg (fun z => v8 + z) (by decide)) (Nat.le_of_ble_eq_true rfl) rfl) ?_
  refine S.of1 (pc2 := 75) (fun Q => g_goto d_T_claims_159 rfl) ?_
  exact S.wk (L2 := [some (.ref 0), none, some (.int v2), some (.int v3), some (.ref q4), some (.int x23), some (.int (v6 ||| v9)), some (.int v7), some (.int (v8 + (1 : Int32))), none]) (And.intro rfl (And.intro rfl (And.intro rfl (And.intro rfl (And.intro rfl (And.intro rfl (And.intro rfl (And.intro rfl trivial)))))))) (hk75 v2 v3 q4 hq4 x23 (v6 ||| v9) v7 (v8 + (1 : Int32)) σ)
def f_T_claims_L75 : Nat → Int32 → Int32 → Nat → Int32 → Int32 → Int32 → Int32 → gS → Option (Int32 × gS)
  | 0, _, _, _, _, _, _, _, _ => none
  | n + 1, v2, v3, q4, v5, v6, v7, v8, σ =>
  if v2 ≤ v8 then f_T_claims_j162 v3 v5 v6 v7 σ else (f_Sh_small q4 v8 σ).bind fun q16 => (f_T_within q16 (σ.1 1 6)).bind fun q17 => if q17 = 0 then f_T_claims_j162 v3 v5 v6 v7 σ else (f_Sh_small q4 v8 σ).bind fun q19 => (f_Cr_metBy 11 q19 v5 σ).bind fun q20 => if q20 = 0 then f_T_claims_j135 (fun v2 v3 q4 v5 v6 v7 v8 σ => f_T_claims_L75 n v2 v3 q4 v5 v6 v7 v8 σ) v2 v3 q4 v5 v6 v7 v8 q20 σ else if v7 = (-2 : Int32) then f_T_claims_j135 (fun v2 v3 q4 v5 v6 v7 v8 σ => f_T_claims_L75 n v2 v3 q4 v5 v6 v7 v8 σ) v2 v3 q4 v5 v6 v8 v8 q20 σ else f_T_claims_j135 (fun v2 v3 q4 v5 v6 v7 v8 σ => f_T_claims_L75 n v2 v3 q4 v5 v6 v7 v8 σ) v2 v3 q4 v5 v6 v7 v8 q20 σ
theorem s_T_claims_L75 (d : Nat) (hd : 6 ≤ d) : ∀ (n : Nat) (v2 : Int32) (v3 : Int32) (q4 : Nat) (hq4 : gcls q4 = some 8) (v5 : Int32) (v6 : Int32) (v7 : Int32) (v8 : Int32) (σ : gS), S wI m_T_claims d 75 [some (.ref 0), none, some (.int v2), some (.int v3), some (.ref q4), some (.int v5), some (.int v6), some (.int v7), some (.int v8), none] [] σ (f_T_claims_L75 n v2 v3 q4 v5 v6 v7 v8 σ) := by
  intro n
  induction n with
  | zero =>
    intros
    unfold f_T_claims_L75
    exact S.no
  | succ n ih =>
    intro v2 v3 q4 hq4 v5 v6 v7 v8 σ
    unfold f_T_claims_L75
    refine S.of1 (pc2 := 77) (fun Q => g_iload d_T_claims_75 rfl) ?_
    refine S.of1 (pc2 := 78) (fun Q => g_iload_n d_T_claims_77 rfl) ?_
    refine S.br (c := v2 ≤ v8) (t := 162) (e := 81) (fun Q kt kf => g_icmp_ge d_T_claims_78 rfl kt kf) (fun h12 => ?_) (fun h12 => ?_)
    · exact S.wk (L2 := [none, none, none, some (.int v3), none, some (.int v5), some (.int v6), some (.int v7), none, none]) (And.intro rfl (And.intro rfl (And.intro rfl (And.intro rfl trivial)))) (s_T_claims_j162 d hd v3 v5 v6 v7 σ)
    · refine S.of1 (pc2 := 83) (fun Q => g_aload d_T_claims_81 rfl) ?_
      refine S.of1 (pc2 := 85) (fun Q => g_iload d_T_claims_83 rfl) ?_
      refine S.call_rI (pc3 := 88) rfl (c_Sh_small (d - 1) (by omega) q4 hq4 v8 σ) (fun Q => g_callV (M2 := m_Sh_small) (vs := [.int v8]) (st := []) lv_RX10_149 hq4 rfl rfl (Nat.le_of_ble_eq_true rfl) (by omega) (Nat.le_of_ble_eq_true rfl) rfl d_T_claims_85) (fun q16 => ?_)
      refine S.of1 (pc2 := 89) (fun Q => g_aload_n d_T_claims_88 rfl) ?_
      refine S.of1 (pc2 := 92) (fun Q => g_getr fl_RX10_10 gc_0_0 d_T_claims_89) ?_
      refine S.of1 (pc2 := 95) (fun Q => g_geti fl_RX10_126 gc_1_6 d_T_claims_92) ?_
      refine S.call_rI (pc3 := 98) rfl (c_T_within (d - 1) (by omega) q16 (σ.1 1 6) σ) (fun Q => g_callS (M2 := m_T_within) (vs := [.int q16, .int (σ.1 1 6)]) (st := []) ls_RX10_72 rfl (Nat.le_of_ble_eq_true rfl) (by omega) (Nat.le_of_ble_eq_true rfl) rfl d_T_claims_95) (fun q17 => ?_)
      refine S.br (c := q17 = 0) (t := 162) (e := 101) (fun Q kt kf => g_if_eq d_T_claims_98 rfl kt kf) (fun h18 => ?_) (fun h18 => ?_)
      · exact S.wk (L2 := [none, none, none, some (.int v3), none, some (.int v5), some (.int v6), some (.int v7), none, none]) (And.intro rfl (And.intro rfl (And.intro rfl (And.intro rfl trivial)))) (s_T_claims_j162 d hd v3 v5 v6 v7 σ)
      · refine S.of1 (pc2 := 102) (fun Q => g_aload_n d_T_claims_101 rfl) ?_
        refine S.of1 (pc2 := 105) (fun Q => g_getr fl_RX10_19 gc_0_1 d_T_claims_102) ?_
        refine S.of1 (pc2 := 107) (fun Q => g_aload d_T_claims_105 rfl) ?_
        refine S.of1 (pc2 := 109) (fun Q => g_iload d_T_claims_107 rfl) ?_
        refine S.call_rI (pc3 := 112) rfl (c_Sh_small (d - 1) (by omega) q4 hq4 v8 σ) (fun Q => g_callV (M2 := m_Sh_small) (vs := [.int v8]) (st := [.ref 11]) lv_RX10_149 hq4 rfl rfl (Nat.le_of_ble_eq_true rfl) (by omega) (Nat.le_of_ble_eq_true rfl) rfl d_T_claims_109) (fun q19 => ?_)
        refine S.of1 (pc2 := 114) (fun Q => g_iload d_T_claims_112 rfl) ?_
        refine S.call_rI (pc3 := 117) rfl (c_Cr_metBy (d - 1) (by omega) 11 gk_11 q19 v5 σ) (fun Q => g_callV (M2 := m_Cr_metBy) (vs := [.int q19, .int v5]) (st := []) lv_RX10_152 gk_11 rfl rfl (Nat.le_of_ble_eq_true rfl) (by omega) (Nat.le_of_ble_eq_true rfl) rfl d_T_claims_114) (fun q20 => ?_)
        refine S.of1 (pc2 := 119) (L2 := [some (.ref 0), none, some (.int v2), some (.int v3), some (.ref q4), some (.int v5), some (.int v6), some (.int v7), some (.int v8), some (.int q20)]) (fun Q => g_istore d_T_claims_117 (Nat.le_of_ble_eq_true rfl) rfl) ?_
        refine S.of1 (pc2 := 121) (fun Q => g_iload d_T_claims_119 rfl) ?_
        refine S.br (c := q20 = 0) (t := 135) (e := 124) (fun Q kt kf => g_if_eq d_T_claims_121 rfl kt kf) (fun h21 => ?_) (fun h21 => ?_)
        · exact S.wk (L2 := [some (.ref 0), none, some (.int v2), some (.int v3), some (.ref q4), some (.int v5), some (.int v6), some (.int v7), some (.int v8), some (.int q20)]) (And.intro rfl (And.intro rfl (And.intro rfl (And.intro rfl (And.intro rfl (And.intro rfl (And.intro rfl (And.intro rfl (And.intro rfl trivial))))))))) (s_T_claims_j135 d hd (fun v2 v3 q4 v5 v6 v7 v8 σ => f_T_claims_L75 n v2 v3 q4 v5 v6 v7 v8 σ) (fun v2 v3 q4 hq4 v5 v6 v7 v8 τ => ih v2 v3 q4 hq4 v5 v6 v7 v8 τ) v2 v3 q4 hq4 v5 v6 v7 v8 q20 σ)
        · refine S.of1 (pc2 := 126) (fun Q => g_iload d_T_claims_124 rfl) ?_
          refine S.of1 (pc2 := 128) (fun Q => g_bipush (v := (-2 : Int32)) d_T_claims_126 (by decide)) ?_
          refine S.br (c := v7 = (-2 : Int32)) (t := 131) (e := 135) (fun Q kt kf => g_icmp_ne d_T_claims_128 rfl kf kt) (fun h24 => ?_) (fun h24 => ?_)
          · refine S.of1 (pc2 := 133) (fun Q => g_iload d_T_claims_131 rfl) ?_
            refine S.of1 (pc2 := 135) (L2 := [some (.ref 0), none, some (.int v2), some (.int v3), some (.ref q4), some (.int v5), some (.int v6), some (.int v8), some (.int v8), some (.int q20)]) (fun Q => g_istore d_T_claims_133 (Nat.le_of_ble_eq_true rfl) rfl) ?_
            exact S.wk (L2 := [some (.ref 0), none, some (.int v2), some (.int v3), some (.ref q4), some (.int v5), some (.int v6), some (.int v8), some (.int v8), some (.int q20)]) (And.intro rfl (And.intro rfl (And.intro rfl (And.intro rfl (And.intro rfl (And.intro rfl (And.intro rfl (And.intro rfl (And.intro rfl trivial))))))))) (s_T_claims_j135 d hd (fun v2 v3 q4 v5 v6 v7 v8 σ => f_T_claims_L75 n v2 v3 q4 v5 v6 v7 v8 σ) (fun v2 v3 q4 hq4 v5 v6 v7 v8 τ => ih v2 v3 q4 hq4 v5 v6 v7 v8 τ) v2 v3 q4 hq4 v5 v6 v8 v8 q20 σ)
          · exact S.wk (L2 := [some (.ref 0), none, some (.int v2), some (.int v3), some (.ref q4), some (.int v5), some (.int v6), some (.int v7), some (.int v8), some (.int q20)]) (And.intro rfl (And.intro rfl (And.intro rfl (And.intro rfl (And.intro rfl (And.intro rfl (And.intro rfl (And.intro rfl (And.intro rfl trivial))))))))) (s_T_claims_j135 d hd (fun v2 v3 q4 v5 v6 v7 v8 σ => f_T_claims_L75 n v2 v3 q4 v5 v6 v7 v8 σ) (fun v2 v3 q4 hq4 v5 v6 v7 v8 τ => ih v2 v3 q4 hq4 v5 v6 v7 v8 τ) v2 v3 q4 hq4 v5 v6 v7 v8 q20 σ)
def f_T_claims (v1 : Int32) (v2 : Int32) (v3 : Int32) (σ : gS) : Option (Int32 × gS) :=
  (f_T_within v1 (6 : Int32)).bind fun q1 => if q1 = 0 then some ((-1 : Int32), σ) else if v2 < 0 then some ((-1 : Int32), σ) else if (40 : Int32) < v2 then some ((-1 : Int32), σ) else (f_T_within v3 (3 : Int32)).bind fun q5 => if q5 = 0 then some ((-1 : Int32), σ) else if gix v1 6 then (f_Sh_isOfBytes (gshc v1) σ).bind fun q8 => if q8 = 0 then (f_Sh_refusal (gshc v1) σ).bind fun q10 => some (q10, σ) else (f_Cr_gatherNow 11 σ).bind fun s11 => f_T_claims_L75 gfu v2 v3 (gshc v1) (0 : Int32) (0 : Int32) (-2 : Int32) (0 : Int32) s11 else none
theorem c_T_claims (d : Nat) (hd : 6 ≤ d) (v1 : Int32) (v2 : Int32) (v3 : Int32) (σ : gS) : C wI d m_T_claims [.ref 0, .int v1, .int v2, .int v3] σ (f_T_claims v1 v2 v3 σ) := by
  unfold f_T_claims
  refine C.of (by decide +kernel) (Nat.le_of_ble_eq_true rfl) (L := [some (.ref 0), some (.int v1), some (.int v2), some (.int v3), none, none, none, none, none, none]) rfl ?_
  refine S.of1 (pc2 := 1) (fun Q => g_iload_n d_T_claims_0 rfl) ?_
  refine S.of1 (pc2 := 3) (fun Q => g_bipush (v := (6 : Int32)) d_T_claims_1 (by decide)) ?_
  refine S.call_rI (pc3 := 6) rfl (c_T_within (d - 1) (by omega) v1 (6 : Int32) σ) (fun Q => g_callS (M2 := m_T_within) (vs := [.int v1, .int (6 : Int32)]) (st := []) ls_RX10_72 rfl (Nat.le_of_ble_eq_true rfl) (by omega) (Nat.le_of_ble_eq_true rfl) rfl d_T_claims_3) (fun q1 => ?_)
  refine S.br (c := q1 = 0) (t := 27) (e := 9) (fun Q kt kf => g_if_eq d_T_claims_6 rfl kt kf) (fun h2 => ?_) (fun h2 => ?_)
  · refine S.of1 (pc2 := 28) (fun Q => g_iconst (v := (-1 : Int32)) d_T_claims_27 (by decide)) ?_
    exact S.ret (fun Q hq => g_iret rfl d_T_claims_28 hq)
  · refine S.of1 (pc2 := 10) (fun Q => g_iload_n d_T_claims_9 rfl) ?_
    refine S.br (c := v2 < 0) (t := 27) (e := 13) (fun Q kt kf => g_if_lt d_T_claims_10 rfl kt kf) (fun h3 => ?_) (fun h3 => ?_)
    · refine S.of1 (pc2 := 28) (fun Q => g_iconst (v := (-1 : Int32)) d_T_claims_27 (by decide)) ?_
      exact S.ret (fun Q hq => g_iret rfl d_T_claims_28 hq)
    · refine S.of1 (pc2 := 14) (fun Q => g_iload_n d_T_claims_13 rfl) ?_
      refine S.of1 (pc2 := 16) (fun Q => g_bipush (v := (40 : Int32)) d_T_claims_14 (by decide)) ?_
      refine S.br (c := (40 : Int32) < v2) (t := 27) (e := 19) (fun Q kt kf => g_icmp_gt d_T_claims_16 rfl kt kf) (fun h4 => ?_) (fun h4 => ?_)
      · refine S.of1 (pc2 := 28) (fun Q => g_iconst (v := (-1 : Int32)) d_T_claims_27 (by decide)) ?_
        exact S.ret (fun Q hq => g_iret rfl d_T_claims_28 hq)
      · refine S.of1 (pc2 := 20) (fun Q => g_iload_n d_T_claims_19 rfl) ?_
        refine S.of1 (pc2 := 21) (fun Q => g_iconst (v := (3 : Int32)) d_T_claims_20 (by decide)) ?_
        refine S.call_rI (pc3 := 24) rfl (c_T_within (d - 1) (by omega) v3 (3 : Int32) σ) (fun Q => g_callS (M2 := m_T_within) (vs := [.int v3, .int (3 : Int32)]) (st := []) ls_RX10_72 rfl (Nat.le_of_ble_eq_true rfl) (by omega) (Nat.le_of_ble_eq_true rfl) rfl d_T_claims_21) (fun q5 => ?_)
        refine S.br (c := q5 = 0) (t := 27) (e := 29) (fun Q kt kf => g_if_ne d_T_claims_24 rfl kf kt) (fun h6 => ?_) (fun h6 => ?_)
        · refine S.of1 (pc2 := 28) (fun Q => g_iconst (v := (-1 : Int32)) d_T_claims_27 (by decide)) ?_
          exact S.ret (fun Q hq => g_iret rfl d_T_claims_28 hq)
        · refine S.of1 (pc2 := 30) (fun Q => g_aload_n d_T_claims_29 rfl) ?_
          refine S.of1 (pc2 := 33) (fun Q => g_getr fl_RX10_67 gc_0_8 d_T_claims_30) ?_
          refine S.of1 (pc2 := 34) (fun Q => g_iload_n d_T_claims_33 rfl) ?_
          refine S.chk (fun h7 => ?_)
          refine S.of1 (pc2 := 35) (fun Q => g_aald gra_46 (gix_in h7) (gsh_get h7) d_T_claims_34) ?_
          refine S.of1 (pc2 := 37) (L2 := [some (.ref 0), some (.int v1), some (.int v2), some (.int v3), some (.ref (gshc v1)), none, none, none, none, none]) (fun Q => g_astore d_T_claims_35 (Nat.le_of_ble_eq_true rfl) rfl) ?_
          refine S.of1 (pc2 := 39) (fun Q => g_aload d_T_claims_37 rfl) ?_
          refine S.call_rI (pc3 := 42) rfl (c_Sh_isOfBytes (d - 1) (by omega) (gshc v1) (gsh_cls h7) σ) (fun Q => g_callV (M2 := m_Sh_isOfBytes) (vs := []) (st := []) lv_RX10_84 (gsh_cls h7) rfl rfl (Nat.le_of_ble_eq_true rfl) (by omega) (Nat.le_of_ble_eq_true rfl) rfl d_T_claims_39) (fun q8 => ?_)
          refine S.br (c := q8 = 0) (t := 45) (e := 51) (fun Q kt kf => g_if_ne d_T_claims_42 rfl kf kt) (fun h9 => ?_) (fun h9 => ?_)
          · refine S.of1 (pc2 := 47) (fun Q => g_aload d_T_claims_45 rfl) ?_
            refine S.call_rI (pc3 := 50) rfl (c_Sh_refusal (d - 1) (by omega) (gshc v1) (gsh_cls h7) σ) (fun Q => g_callV (M2 := m_Sh_refusal) (vs := []) (st := []) lv_RX10_146 (gsh_cls h7) rfl rfl (Nat.le_of_ble_eq_true rfl) (by omega) (Nat.le_of_ble_eq_true rfl) rfl d_T_claims_47) (fun q10 => ?_)
            exact S.ret (fun Q hq => g_iret rfl d_T_claims_50 hq)
          · refine S.of1 (pc2 := 52) (fun Q => g_aload_n d_T_claims_51 rfl) ?_
            refine S.of1 (pc2 := 55) (fun Q => g_getr fl_RX10_19 gc_0_1 d_T_claims_52) ?_
            refine S.of1 (pc2 := 56) (fun Q => g_aload_n d_T_claims_55 rfl) ?_
            refine S.of1 (pc2 := 59) (fun Q => g_getr fl_RX10_10 gc_0_0 d_T_claims_56) ?_
            refine S.call_wV (pc3 := 62) rfl (c_Cr_gatherNow (d - 1) (by omega) 11 gk_11 σ) (fun Q => g_callV (M2 := m_Cr_gatherNow) (vs := [.ref 1]) (st := []) lv_RX10_132 gk_11 rfl rfl (Nat.le_of_ble_eq_true rfl) (by omega) (Nat.le_of_ble_eq_true rfl) rfl d_T_claims_59) (fun s11 => ?_)
            refine S.of1 (pc2 := 63) (fun Q => g_iconst (v := (0 : Int32)) d_T_claims_62 (by decide)) ?_
            refine S.of1 (pc2 := 65) (L2 := [some (.ref 0), some (.int v1), some (.int v2), some (.int v3), some (.ref (gshc v1)), some (.int (0 : Int32)), none, none, none, none]) (fun Q => g_istore d_T_claims_63 (Nat.le_of_ble_eq_true rfl) rfl) ?_
            refine S.of1 (pc2 := 66) (fun Q => g_iconst (v := (0 : Int32)) d_T_claims_65 (by decide)) ?_
            refine S.of1 (pc2 := 68) (L2 := [some (.ref 0), some (.int v1), some (.int v2), some (.int v3), some (.ref (gshc v1)), some (.int (0 : Int32)), some (.int (0 : Int32)), none, none, none]) (fun Q => g_istore d_T_claims_66 (Nat.le_of_ble_eq_true rfl) rfl) ?_
            refine S.of1 (pc2 := 70) (fun Q => g_bipush (v := (-2 : Int32)) d_T_claims_68 (by decide)) ?_
            refine S.of1 (pc2 := 72) (L2 := [some (.ref 0), some (.int v1), some (.int v2), some (.int v3), some (.ref (gshc v1)), some (.int (0 : Int32)), some (.int (0 : Int32)), some (.int (-2 : Int32)), none, none]) (fun Q => g_istore d_T_claims_70 (Nat.le_of_ble_eq_true rfl) rfl) ?_
            refine S.of1 (pc2 := 73) (fun Q => g_iconst (v := (0 : Int32)) d_T_claims_72 (by decide)) ?_
            refine S.of1 (pc2 := 75) (L2 := [some (.ref 0), some (.int v1), some (.int v2), some (.int v3), some (.ref (gshc v1)), some (.int (0 : Int32)), some (.int (0 : Int32)), some (.int (-2 : Int32)), some (.int (0 : Int32)), none]) (fun Q => g_istore d_T_claims_73 (Nat.le_of_ble_eq_true rfl) rfl) ?_
            exact S.wk (L2 := [some (.ref 0), none, some (.int v2), some (.int v3), some (.ref (gshc v1)), some (.int (0 : Int32)), some (.int (0 : Int32)), some (.int (-2 : Int32)), some (.int (0 : Int32)), none]) (And.intro rfl (And.intro rfl (And.intro rfl (And.intro rfl (And.intro rfl (And.intro rfl (And.intro rfl (And.intro rfl trivial)))))))) (s_T_claims_L75 d hd gfu v2 v3 (gshc v1) (gsh_cls h7) (0 : Int32) (0 : Int32) (-2 : Int32) (0 : Int32) s11)
def f_T_happens_L56 : Nat → Int32 → Nat → Int32 → Int32 → gS → Option (Int32 × gS)
  | 0, _, _, _, _, _ => none
  | n + 1, v2, q3, v4, v5, σ =>
  if (40 : Int32) ≤ v5 then some ((-2 : Int32), σ) else (f_Sh_small q3 v5 σ).bind fun q11 => (f_T_within q11 (σ.1 1 6)).bind fun q12 => if q12 = 0 then some ((-2 : Int32), σ) else (f_Sh_small q3 v5 σ).bind fun q14 => (f_Cr_metBy 11 q14 v4 σ).bind fun q15 => (f_T_has q15 v2).bind fun q16 => if q16 = 0 then (f_Sh_small q3 v5 σ).bind fun q18 => glt (v4 ||| ((1 : Int32) <<< (q18 &&& 31))) fun x19 => (fun v2 q3 v4 v5 σ => f_T_happens_L56 n v2 q3 v4 v5 σ) v2 q3 x19 (v5 + (1 : Int32)) σ else some ((v5 + (1 : Int32)), σ)
theorem s_T_happens_L56 (d : Nat) (hd : 6 ≤ d) : ∀ (n : Nat) (v2 : Int32) (q3 : Nat) (hq3 : gcls q3 = some 8) (v4 : Int32) (v5 : Int32) (σ : gS), S wI m_T_happens d 56 [some (.ref 0), none, some (.int v2), some (.ref q3), some (.int v4), some (.int v5)] [] σ (f_T_happens_L56 n v2 q3 v4 v5 σ) := by
  intro n
  induction n with
  | zero =>
    intros
    unfold f_T_happens_L56
    exact S.no
  | succ n ih =>
    intro v2 q3 hq3 v4 v5 σ
    unfold f_T_happens_L56
    refine S.of1 (pc2 := 58) (fun Q => g_iload d_T_happens_56 rfl) ?_
    refine S.of1 (pc2 := 60) (fun Q => g_bipush (v := (40 : Int32)) d_T_happens_58 (by decide)) ?_
    refine S.br (c := (40 : Int32) ≤ v5) (t := 128) (e := 63) (fun Q kt kf => g_icmp_ge d_T_happens_60 rfl kt kf) (fun h10 => ?_) (fun h10 => ?_)
    · refine S.of1 (pc2 := 130) (fun Q => g_bipush (v := (-2 : Int32)) d_T_happens_128 (by decide)) ?_
      exact S.ret (fun Q hq => g_iret rfl d_T_happens_130 hq)
    · refine S.of1 (pc2 := 64) (fun Q => g_aload_n d_T_happens_63 rfl) ?_
      refine S.of1 (pc2 := 66) (fun Q => g_iload d_T_happens_64 rfl) ?_
      refine S.call_rI (pc3 := 69) rfl (c_Sh_small (d - 1) (by omega) q3 hq3 v5 σ) (fun Q => g_callV (M2 := m_Sh_small) (vs := [.int v5]) (st := []) lv_RX10_149 hq3 rfl rfl (Nat.le_of_ble_eq_true rfl) (by omega) (Nat.le_of_ble_eq_true rfl) rfl d_T_happens_66) (fun q11 => ?_)
      refine S.of1 (pc2 := 70) (fun Q => g_aload_n d_T_happens_69 rfl) ?_
      refine S.of1 (pc2 := 73) (fun Q => g_getr fl_RX10_10 gc_0_0 d_T_happens_70) ?_
      refine S.of1 (pc2 := 76) (fun Q => g_geti fl_RX10_126 gc_1_6 d_T_happens_73) ?_
      refine S.call_rI (pc3 := 79) rfl (c_T_within (d - 1) (by omega) q11 (σ.1 1 6) σ) (fun Q => g_callS (M2 := m_T_within) (vs := [.int q11, .int (σ.1 1 6)]) (st := []) ls_RX10_72 rfl (Nat.le_of_ble_eq_true rfl) (by omega) (Nat.le_of_ble_eq_true rfl) rfl d_T_happens_76) (fun q12 => ?_)
      refine S.br (c := q12 = 0) (t := 128) (e := 82) (fun Q kt kf => g_if_eq d_T_happens_79 rfl kt kf) (fun h13 => ?_) (fun h13 => ?_)
      · refine S.of1 (pc2 := 130) (fun Q => g_bipush (v := (-2 : Int32)) d_T_happens_128 (by decide)) ?_
        exact S.ret (fun Q hq => g_iret rfl d_T_happens_130 hq)
      · refine S.of1 (pc2 := 83) (fun Q => g_aload_n d_T_happens_82 rfl) ?_
        refine S.of1 (pc2 := 86) (fun Q => g_getr fl_RX10_19 gc_0_1 d_T_happens_83) ?_
        refine S.of1 (pc2 := 87) (fun Q => g_aload_n d_T_happens_86 rfl) ?_
        refine S.of1 (pc2 := 89) (fun Q => g_iload d_T_happens_87 rfl) ?_
        refine S.call_rI (pc3 := 92) rfl (c_Sh_small (d - 1) (by omega) q3 hq3 v5 σ) (fun Q => g_callV (M2 := m_Sh_small) (vs := [.int v5]) (st := [.ref 11]) lv_RX10_149 hq3 rfl rfl (Nat.le_of_ble_eq_true rfl) (by omega) (Nat.le_of_ble_eq_true rfl) rfl d_T_happens_89) (fun q14 => ?_)
        refine S.of1 (pc2 := 94) (fun Q => g_iload d_T_happens_92 rfl) ?_
        refine S.call_rI (pc3 := 97) rfl (c_Cr_metBy (d - 1) (by omega) 11 gk_11 q14 v4 σ) (fun Q => g_callV (M2 := m_Cr_metBy) (vs := [.int q14, .int v4]) (st := []) lv_RX10_152 gk_11 rfl rfl (Nat.le_of_ble_eq_true rfl) (by omega) (Nat.le_of_ble_eq_true rfl) rfl d_T_happens_94) (fun q15 => ?_)
        refine S.of1 (pc2 := 98) (fun Q => g_iload_n d_T_happens_97 rfl) ?_
        refine S.call_rI (pc3 := 101) rfl (c_T_has (d - 1) (by omega) q15 v2 σ) (fun Q => g_callS (M2 := m_T_has) (vs := [.int q15, .int v2]) (st := []) ls_RX10_160 rfl (Nat.le_of_ble_eq_true rfl) (by omega) (Nat.le_of_ble_eq_true rfl) rfl d_T_happens_98) (fun q16 => ?_)
        refine S.br (c := q16 = 0) (t := 109) (e := 104) (fun Q kt kf => g_if_eq d_T_happens_101 rfl kt kf) (fun h17 => ?_) (fun h17 => ?_)
        · refine S.of1 (pc2 := 111) (fun Q => g_iload d_T_happens_109 rfl) ?_
          refine S.of1 (pc2 := 112) (fun Q => g_iconst (v := (1 : Int32)) d_T_happens_111 (by decide)) ?_
          refine S.of1 (pc2 := 113) (fun Q => g_aload_n d_T_happens_112 rfl) ?_
          refine S.of1 (pc2 := 115) (fun Q => g_iload d_T_happens_113 rfl) ?_
          refine S.call_rI (pc3 := 118) rfl (c_Sh_small (d - 1) (by omega) q3 hq3 v5 σ) (fun Q => g_callV (M2 := m_Sh_small) (vs := [.int v5]) (st := [.int (1 : Int32), .int v4]) lv_RX10_149 hq3 rfl rfl (Nat.le_of_ble_eq_true rfl) (by omega) (Nat.le_of_ble_eq_true rfl) rfl d_T_happens_115) (fun q18 => ?_)
          refine S.of1 (pc2 := 119) (fun Q => g_ishl d_T_happens_118) ?_
          refine S.of1 (pc2 := 120) (fun Q => g_ior d_T_happens_119) ?_
          refine S.of1 (pc2 := 122) (L2 := [some (.ref 0), none, some (.int v2), some (.ref q3), some (.int (v4 ||| ((1 : Int32) <<< (q18 &&& 31)))), some (.int v5)]) (fun Q => g_istore d_T_happens_120 (Nat.le_of_ble_eq_true rfl) rfl) ?_
          refine S.glt (x := (v4 ||| ((1 : Int32) <<< (q18 &&& 31)))) (Lf := fun y => [some (.ref 0), none, some (.int v2), some (.ref q3), some (.int y), some (.int v5)]) (fun x19 => ?_)
          refine S.of1 (pc2 := 125) (L2 := [some (.ref 0), none, some (.int v2), some (.ref q3), some (.int x19), some (.int (v5 + (1 : Int32)))]) (fun Q => g_iinc d_T_happens_122 rfl (congrArg (fun z => v5 + z) (by decide)) (Nat.le_of_ble_eq_true rfl) rfl) ?_
          refine S.of1 (pc2 := 56) (fun Q => g_goto d_T_happens_125 rfl) ?_
          exact S.wk (L2 := [some (.ref 0), none, some (.int v2), some (.ref q3), some (.int x19), some (.int (v5 + (1 : Int32)))]) (And.intro rfl (And.intro rfl (And.intro rfl (And.intro rfl (And.intro rfl trivial))))) (ih v2 q3 hq3 x19 (v5 + (1 : Int32)) σ)
        · refine S.of1 (pc2 := 106) (fun Q => g_iload d_T_happens_104 rfl) ?_
          refine S.of1 (pc2 := 107) (fun Q => g_iconst (v := (1 : Int32)) d_T_happens_106 (by decide)) ?_
          refine S.of1 (pc2 := 108) (fun Q => g_iadd d_T_happens_107) ?_
          exact S.ret (fun Q hq => g_iret rfl d_T_happens_108 hq)
def f_T_happens (v1 : Int32) (v2 : Int32) (σ : gS) : Option (Int32 × gS) :=
  (f_T_within v1 (6 : Int32)).bind fun q1 => if q1 = 0 then some ((-1 : Int32), σ) else (f_T_within v2 (6 : Int32)).bind fun q3 => if q3 = 0 then some ((-1 : Int32), σ) else if gix v1 6 then (f_Sh_isOfBytes (gshc v1) σ).bind fun q6 => if q6 = 0 then (f_Sh_refusal (gshc v1) σ).bind fun q8 => some (q8, σ) else (f_Cr_gatherNow 11 σ).bind fun s9 => f_T_happens_L56 gfu v2 (gshc v1) (0 : Int32) (0 : Int32) s9 else none
theorem c_T_happens (d : Nat) (hd : 6 ≤ d) (v1 : Int32) (v2 : Int32) (σ : gS) : C wI d m_T_happens [.ref 0, .int v1, .int v2] σ (f_T_happens v1 v2 σ) := by
  unfold f_T_happens
  refine C.of (by decide +kernel) (Nat.le_of_ble_eq_true rfl) (L := [some (.ref 0), some (.int v1), some (.int v2), none, none, none]) rfl ?_
  refine S.of1 (pc2 := 1) (fun Q => g_iload_n d_T_happens_0 rfl) ?_
  refine S.of1 (pc2 := 3) (fun Q => g_bipush (v := (6 : Int32)) d_T_happens_1 (by decide)) ?_
  refine S.call_rI (pc3 := 6) rfl (c_T_within (d - 1) (by omega) v1 (6 : Int32) σ) (fun Q => g_callS (M2 := m_T_within) (vs := [.int v1, .int (6 : Int32)]) (st := []) ls_RX10_72 rfl (Nat.le_of_ble_eq_true rfl) (by omega) (Nat.le_of_ble_eq_true rfl) rfl d_T_happens_3) (fun q1 => ?_)
  refine S.br (c := q1 = 0) (t := 18) (e := 9) (fun Q kt kf => g_if_eq d_T_happens_6 rfl kt kf) (fun h2 => ?_) (fun h2 => ?_)
  · refine S.of1 (pc2 := 19) (fun Q => g_iconst (v := (-1 : Int32)) d_T_happens_18 (by decide)) ?_
    exact S.ret (fun Q hq => g_iret rfl d_T_happens_19 hq)
  · refine S.of1 (pc2 := 10) (fun Q => g_iload_n d_T_happens_9 rfl) ?_
    refine S.of1 (pc2 := 12) (fun Q => g_bipush (v := (6 : Int32)) d_T_happens_10 (by decide)) ?_
    refine S.call_rI (pc3 := 15) rfl (c_T_within (d - 1) (by omega) v2 (6 : Int32) σ) (fun Q => g_callS (M2 := m_T_within) (vs := [.int v2, .int (6 : Int32)]) (st := []) ls_RX10_72 rfl (Nat.le_of_ble_eq_true rfl) (by omega) (Nat.le_of_ble_eq_true rfl) rfl d_T_happens_12) (fun q3 => ?_)
    refine S.br (c := q3 = 0) (t := 18) (e := 20) (fun Q kt kf => g_if_ne d_T_happens_15 rfl kf kt) (fun h4 => ?_) (fun h4 => ?_)
    · refine S.of1 (pc2 := 19) (fun Q => g_iconst (v := (-1 : Int32)) d_T_happens_18 (by decide)) ?_
      exact S.ret (fun Q hq => g_iret rfl d_T_happens_19 hq)
    · refine S.of1 (pc2 := 21) (fun Q => g_aload_n d_T_happens_20 rfl) ?_
      refine S.of1 (pc2 := 24) (fun Q => g_getr fl_RX10_67 gc_0_8 d_T_happens_21) ?_
      refine S.of1 (pc2 := 25) (fun Q => g_iload_n d_T_happens_24 rfl) ?_
      refine S.chk (fun h5 => ?_)
      refine S.of1 (pc2 := 26) (fun Q => g_aald gra_46 (gix_in h5) (gsh_get h5) d_T_happens_25) ?_
      refine S.of1 (pc2 := 27) (L2 := [some (.ref 0), some (.int v1), some (.int v2), some (.ref (gshc v1)), none, none]) (fun Q => g_astore_n d_T_happens_26 (Nat.le_of_ble_eq_true rfl) rfl) ?_
      refine S.of1 (pc2 := 28) (fun Q => g_aload_n d_T_happens_27 rfl) ?_
      refine S.call_rI (pc3 := 31) rfl (c_Sh_isOfBytes (d - 1) (by omega) (gshc v1) (gsh_cls h5) σ) (fun Q => g_callV (M2 := m_Sh_isOfBytes) (vs := []) (st := []) lv_RX10_84 (gsh_cls h5) rfl rfl (Nat.le_of_ble_eq_true rfl) (by omega) (Nat.le_of_ble_eq_true rfl) rfl d_T_happens_28) (fun q6 => ?_)
      refine S.br (c := q6 = 0) (t := 34) (e := 39) (fun Q kt kf => g_if_ne d_T_happens_31 rfl kf kt) (fun h7 => ?_) (fun h7 => ?_)
      · refine S.of1 (pc2 := 35) (fun Q => g_aload_n d_T_happens_34 rfl) ?_
        refine S.call_rI (pc3 := 38) rfl (c_Sh_refusal (d - 1) (by omega) (gshc v1) (gsh_cls h5) σ) (fun Q => g_callV (M2 := m_Sh_refusal) (vs := []) (st := []) lv_RX10_146 (gsh_cls h5) rfl rfl (Nat.le_of_ble_eq_true rfl) (by omega) (Nat.le_of_ble_eq_true rfl) rfl d_T_happens_35) (fun q8 => ?_)
        exact S.ret (fun Q hq => g_iret rfl d_T_happens_38 hq)
      · refine S.of1 (pc2 := 40) (fun Q => g_aload_n d_T_happens_39 rfl) ?_
        refine S.of1 (pc2 := 43) (fun Q => g_getr fl_RX10_19 gc_0_1 d_T_happens_40) ?_
        refine S.of1 (pc2 := 44) (fun Q => g_aload_n d_T_happens_43 rfl) ?_
        refine S.of1 (pc2 := 47) (fun Q => g_getr fl_RX10_10 gc_0_0 d_T_happens_44) ?_
        refine S.call_wV (pc3 := 50) rfl (c_Cr_gatherNow (d - 1) (by omega) 11 gk_11 σ) (fun Q => g_callV (M2 := m_Cr_gatherNow) (vs := [.ref 1]) (st := []) lv_RX10_132 gk_11 rfl rfl (Nat.le_of_ble_eq_true rfl) (by omega) (Nat.le_of_ble_eq_true rfl) rfl d_T_happens_47) (fun s9 => ?_)
        refine S.of1 (pc2 := 51) (fun Q => g_iconst (v := (0 : Int32)) d_T_happens_50 (by decide)) ?_
        refine S.of1 (pc2 := 53) (L2 := [some (.ref 0), some (.int v1), some (.int v2), some (.ref (gshc v1)), some (.int (0 : Int32)), none]) (fun Q => g_istore d_T_happens_51 (Nat.le_of_ble_eq_true rfl) rfl) ?_
        refine S.of1 (pc2 := 54) (fun Q => g_iconst (v := (0 : Int32)) d_T_happens_53 (by decide)) ?_
        refine S.of1 (pc2 := 56) (L2 := [some (.ref 0), some (.int v1), some (.int v2), some (.ref (gshc v1)), some (.int (0 : Int32)), some (.int (0 : Int32))]) (fun Q => g_istore d_T_happens_54 (Nat.le_of_ble_eq_true rfl) rfl) ?_
        exact S.wk (L2 := [some (.ref 0), none, some (.int v2), some (.ref (gshc v1)), some (.int (0 : Int32)), some (.int (0 : Int32))]) (And.intro rfl (And.intro rfl (And.intro rfl (And.intro rfl (And.intro rfl trivial))))) (s_T_happens_L56 d hd gfu v2 (gshc v1) (gsh_cls h5) (0 : Int32) (0 : Int32) s9)
def f_Br_begin_j59 (k15 : Int32 → gS → Option gS) (v2 : Int32) (s0 : Int32) (s1 : Int32) (σ : gS) : Option gS :=
  gup (gpi σ 18 2 (s1 ||| s0)) fun s9 => k15 (v2 + (1 : Int32)) s9
theorem s_Br_begin_j59 (d : Nat) (hd : 6 ≤ d) (k15 : Int32 → gS → Option gS) (hk15 : ∀ (v2 : Int32) (τ : gS), S wV m_Br_begin d 15 [some (.ref 18), some (.ref 1), some (.int v2)] [] τ (k15 v2 τ)) (v2 : Int32) (s0 : Int32) (s1 : Int32) (σ : gS) : S wV m_Br_begin d 59 [some (.ref 18), some (.ref 1), some (.int v2)] [.int s0, .int s1, .ref 18] σ (f_Br_begin_j59 k15 v2 s0 s1 σ) := by
  unfold f_Br_begin_j59
  refine S.of1 (pc2 := 60) (fun Q => g_ior d_Br_begin_59) ?_
  refine S.of1 (pc2 := 63) (fun Q => g_puti fl_RX0_26 gc_18_2 rfl rfl d_Br_begin_60) ?_
  refine S.gup (fun s9 => ?_)
  refine S.of1 (pc2 := 66) (L2 := [some (.ref 18), some (.ref 1), some (.int (v2 + (1 : Int32)))]) (fun Q => g_iinc d_Br_begin_63 rfl (congrArg (fun z => v2 + z) (by decide)) (Nat.le_of_ble_eq_true rfl) rfl) ?_
  refine S.of1 (pc2 := 15) (fun Q => g_goto d_Br_begin_66 rfl) ?_
  exact S.wk (L2 := [some (.ref 18), some (.ref 1), some (.int (v2 + (1 : Int32)))]) (And.intro rfl (And.intro rfl (And.intro rfl trivial))) (hk15 (v2 + (1 : Int32)) s9)
def f_Br_begin_L15 : Nat → Int32 → gS → Option gS
  | 0, _, _ => none
  | n + 1, v2, σ =>
  if (σ.1 19 2) ≤ v2 then some σ else if gix v2 10 then if gix v2 10 then gup (gpi σ 26 v2.toNatClampNeg (σ.1 4 v2.toNatClampNeg)) fun s6 => if gix v2 10 then if 0 ≤ (s6.1 5 v2.toNatClampNeg) then f_Br_begin_j59 (fun v2 σ => f_Br_begin_L15 n v2 σ) v2 (0 : Int32) (s6.1 18 2) s6 else f_Br_begin_j59 (fun v2 σ => f_Br_begin_L15 n v2 σ) v2 ((1 : Int32) <<< (v2 &&& 31)) (s6.1 18 2) s6 else none else none else none
theorem s_Br_begin_L15 (d : Nat) (hd : 6 ≤ d) : ∀ (n : Nat) (v2 : Int32) (σ : gS), S wV m_Br_begin d 15 [some (.ref 18), some (.ref 1), some (.int v2)] [] σ (f_Br_begin_L15 n v2 σ) := by
  intro n
  induction n with
  | zero =>
    intros
    unfold f_Br_begin_L15
    exact S.no
  | succ n ih =>
    intro v2 σ
    unfold f_Br_begin_L15
    refine S.of1 (pc2 := 16) (fun Q => g_iload_n d_Br_begin_15 rfl) ?_
    refine S.of1 (pc2 := 17) (fun Q => g_aload_n d_Br_begin_16 rfl) ?_
    refine S.of1 (pc2 := 20) (fun Q => g_getr fl_RX0_12 gc_18_0 d_Br_begin_17) ?_
    refine S.of1 (pc2 := 23) (fun Q => g_geti fl_RX0_30 gc_19_2 d_Br_begin_20) ?_
    refine S.br (c := (σ.1 19 2) ≤ v2) (t := 69) (e := 26) (fun Q kt kf => g_icmp_ge d_Br_begin_23 rfl kt kf) (fun h3 => ?_) (fun h3 => ?_)
    · exact S.ret (fun Q hq => g_vret rfl d_Br_begin_69 hq)
    · refine S.of1 (pc2 := 27) (fun Q => g_aload_n d_Br_begin_26 rfl) ?_
      refine S.of1 (pc2 := 30) (fun Q => g_getr fl_RX0_18 gc_18_1 d_Br_begin_27) ?_
      refine S.of1 (pc2 := 31) (fun Q => g_iload_n d_Br_begin_30 rfl) ?_
      refine S.of1 (pc2 := 32) (fun Q => g_aload_n d_Br_begin_31 rfl) ?_
      refine S.of1 (pc2 := 35) (fun Q => g_getr fl_RX0_33 gc_1_2 d_Br_begin_32) ?_
      refine S.of1 (pc2 := 36) (fun Q => g_iload_n d_Br_begin_35 rfl) ?_
      refine S.chk (fun h4 => ?_)
      refine S.of1 (pc2 := 37) (fun Q => g_iald ga_4 (gix_in h4) d_Br_begin_36) ?_
      refine S.chk (fun h5 => ?_)
      refine S.of1 (pc2 := 38) (fun Q => g_iast ga_26 (gix_in h5) d_Br_begin_37) ?_
      refine S.gup (fun s6 => ?_)
      refine S.of1 (pc2 := 39) (fun Q => g_aload_n d_Br_begin_38 rfl) ?_
      refine S.of1 (pc2 := 40) (fun Q => g_dup d_Br_begin_39 rfl) ?_
      refine S.of1 (pc2 := 43) (fun Q => g_geti fl_RX0_26 gc_18_2 d_Br_begin_40) ?_
      refine S.of1 (pc2 := 44) (fun Q => g_aload_n d_Br_begin_43 rfl) ?_
      refine S.of1 (pc2 := 47) (fun Q => g_getr fl_RX0_36 gc_1_3 d_Br_begin_44) ?_
      refine S.of1 (pc2 := 48) (fun Q => g_iload_n d_Br_begin_47 rfl) ?_
      refine S.chk (fun h7 => ?_)
      refine S.of1 (pc2 := 49) (fun Q => g_iald ga_5 (gix_in h7) d_Br_begin_48) ?_
      refine S.br (c := 0 ≤ (s6.1 5 v2.toNatClampNeg)) (t := 58) (e := 52) (fun Q kt kf => g_if_ge d_Br_begin_49 rfl kt kf) (fun h8 => ?_) (fun h8 => ?_)
      · refine S.of1 (pc2 := 59) (fun Q => g_iconst (v := (0 : Int32)) d_Br_begin_58 (by decide)) ?_
        exact S.wk (L2 := [some (.ref 18), some (.ref 1), some (.int v2)]) (And.intro rfl (And.intro rfl (And.intro rfl trivial))) (s_Br_begin_j59 d hd (fun v2 σ => f_Br_begin_L15 n v2 σ) (fun v2 τ => ih v2 τ) v2 (0 : Int32) (s6.1 18 2) s6)
      · refine S.of1 (pc2 := 53) (fun Q => g_iconst (v := (1 : Int32)) d_Br_begin_52 (by decide)) ?_
        refine S.of1 (pc2 := 54) (fun Q => g_iload_n d_Br_begin_53 rfl) ?_
        refine S.of1 (pc2 := 55) (fun Q => g_ishl d_Br_begin_54) ?_
        refine S.of1 (pc2 := 59) (fun Q => g_goto d_Br_begin_55 rfl) ?_
        exact S.wk (L2 := [some (.ref 18), some (.ref 1), some (.int v2)]) (And.intro rfl (And.intro rfl (And.intro rfl trivial))) (s_Br_begin_j59 d hd (fun v2 σ => f_Br_begin_L15 n v2 σ) (fun v2 τ => ih v2 τ) v2 ((1 : Int32) <<< (v2 &&& 31)) (s6.1 18 2) s6)
def f_Br_begin (σ : gS) : Option gS :=
  (f_Cr_gatherNow 19 σ).bind fun s1 => gup (gpi s1 18 2 (0 : Int32)) fun s2 => f_Br_begin_L15 gfu (0 : Int32) s2
theorem c_Br_begin (d : Nat) (hd : 6 ≤ d) (σ : gS) : C wV d m_Br_begin [.ref 18, .ref 1] σ (f_Br_begin σ) := by
  unfold f_Br_begin
  refine C.of (by decide +kernel) (Nat.le_of_ble_eq_true rfl) (L := [some (.ref 18), some (.ref 1), none]) rfl ?_
  refine S.of1 (pc2 := 1) (fun Q => g_aload_n d_Br_begin_0 rfl) ?_
  refine S.of1 (pc2 := 4) (fun Q => g_getr fl_RX0_12 gc_18_0 d_Br_begin_1) ?_
  refine S.of1 (pc2 := 5) (fun Q => g_aload_n d_Br_begin_4 rfl) ?_
  refine S.call_wV (pc3 := 8) rfl (c_Cr_gatherNow (d - 1) (by omega) 19 gk_19 σ) (fun Q => g_callV (M2 := m_Cr_gatherNow) (vs := [.ref 1]) (st := []) lv_RX0_22 gk_19 rfl rfl (Nat.le_of_ble_eq_true rfl) (by omega) (Nat.le_of_ble_eq_true rfl) rfl d_Br_begin_5) (fun s1 => ?_)
  refine S.of1 (pc2 := 9) (fun Q => g_aload_n d_Br_begin_8 rfl) ?_
  refine S.of1 (pc2 := 10) (fun Q => g_iconst (v := (0 : Int32)) d_Br_begin_9 (by decide)) ?_
  refine S.of1 (pc2 := 13) (fun Q => g_puti fl_RX0_26 gc_18_2 rfl rfl d_Br_begin_10) ?_
  refine S.gup (fun s2 => ?_)
  refine S.of1 (pc2 := 14) (fun Q => g_iconst (v := (0 : Int32)) d_Br_begin_13 (by decide)) ?_
  refine S.of1 (pc2 := 15) (L2 := [some (.ref 18), some (.ref 1), some (.int (0 : Int32))]) (fun Q => g_istore_n d_Br_begin_14 (Nat.le_of_ble_eq_true rfl) rfl) ?_
  exact S.wk (L2 := [some (.ref 18), some (.ref 1), some (.int (0 : Int32))]) (And.intro rfl (And.intro rfl (And.intro rfl trivial))) (s_Br_begin_L15 d hd gfu (0 : Int32) s2)
def f_Br_areMates (v1 : Int32) (σ : gS) : Option Int32 :=
  glt (v1 / (10 : Int32)) fun x1 => glt (grem v1 (10 : Int32)) fun x2 => if v1 < 0 then some (0 : Int32) else if x2 ≤ x1 then some (0 : Int32) else if (σ.1 19 2) ≤ x2 then some (0 : Int32) else if gix x1 10 then if gix x2 10 then if (σ.1 21 x1.toNatClampNeg) = (σ.1 21 x2.toNatClampNeg) then some (0 : Int32) else some (1 : Int32) else none else none
theorem c_Br_areMates (d : Nat) (hd : 1 ≤ d) (v1 : Int32) (σ : gS) : C (rI σ) d m_Br_areMates [.ref 18, .int v1] σ (f_Br_areMates v1 σ) := by
  unfold f_Br_areMates
  refine C.of (by decide +kernel) (Nat.le_of_ble_eq_true rfl) (L := [some (.ref 18), some (.int v1), none, none]) rfl ?_
  refine S.of1 (pc2 := 1) (fun Q => g_iload_n d_Br_areMates_0 rfl) ?_
  refine S.of1 (pc2 := 3) (fun Q => g_bipush (v := (10 : Int32)) d_Br_areMates_1 (by decide)) ?_
  refine S.of1 (pc2 := 4) (fun Q => g_idiv d_Br_areMates_3 (by decide)) ?_
  refine S.of1 (pc2 := 5) (L2 := [some (.ref 18), some (.int v1), some (.int (v1 / (10 : Int32))), none]) (fun Q => g_istore_n d_Br_areMates_4 (Nat.le_of_ble_eq_true rfl) rfl) ?_
  refine S.glt (x := (v1 / (10 : Int32))) (Lf := fun y => [some (.ref 18), some (.int v1), some (.int y), none]) (fun x1 => ?_)
  refine S.of1 (pc2 := 6) (fun Q => g_iload_n d_Br_areMates_5 rfl) ?_
  refine S.of1 (pc2 := 8) (fun Q => g_bipush (v := (10 : Int32)) d_Br_areMates_6 (by decide)) ?_
  refine S.of1 (pc2 := 9) (fun Q => g_irem d_Br_areMates_8 (by decide)) ?_
  refine S.of1 (pc2 := 10) (L2 := [some (.ref 18), some (.int v1), some (.int x1), some (.int (grem v1 (10 : Int32)))]) (fun Q => g_istore_n d_Br_areMates_9 (Nat.le_of_ble_eq_true rfl) rfl) ?_
  refine S.glt (x := (grem v1 (10 : Int32))) (Lf := fun y => [some (.ref 18), some (.int v1), some (.int x1), some (.int y)]) (fun x2 => ?_)
  refine S.of1 (pc2 := 11) (fun Q => g_iload_n d_Br_areMates_10 rfl) ?_
  refine S.br (c := v1 < 0) (t := 55) (e := 14) (fun Q kt kf => g_if_lt d_Br_areMates_11 rfl kt kf) (fun h3 => ?_) (fun h3 => ?_)
  · refine S.of1 (pc2 := 56) (fun Q => g_iconst (v := (0 : Int32)) d_Br_areMates_55 (by decide)) ?_
    exact S.ret (fun Q hq => g_zret rfl rfl d_Br_areMates_56 hq)
  · refine S.of1 (pc2 := 15) (fun Q => g_iload_n d_Br_areMates_14 rfl) ?_
    refine S.of1 (pc2 := 16) (fun Q => g_iload_n d_Br_areMates_15 rfl) ?_
    refine S.br (c := x2 ≤ x1) (t := 55) (e := 19) (fun Q kt kf => g_icmp_ge d_Br_areMates_16 rfl kt kf) (fun h4 => ?_) (fun h4 => ?_)
    · refine S.of1 (pc2 := 56) (fun Q => g_iconst (v := (0 : Int32)) d_Br_areMates_55 (by decide)) ?_
      exact S.ret (fun Q hq => g_zret rfl rfl d_Br_areMates_56 hq)
    · refine S.of1 (pc2 := 20) (fun Q => g_iload_n d_Br_areMates_19 rfl) ?_
      refine S.of1 (pc2 := 21) (fun Q => g_aload_n d_Br_areMates_20 rfl) ?_
      refine S.of1 (pc2 := 24) (fun Q => g_getr fl_RX0_12 gc_18_0 d_Br_areMates_21) ?_
      refine S.of1 (pc2 := 27) (fun Q => g_geti fl_RX0_30 gc_19_2 d_Br_areMates_24) ?_
      refine S.br (c := (σ.1 19 2) ≤ x2) (t := 55) (e := 30) (fun Q kt kf => g_icmp_ge d_Br_areMates_27 rfl kt kf) (fun h5 => ?_) (fun h5 => ?_)
      · refine S.of1 (pc2 := 56) (fun Q => g_iconst (v := (0 : Int32)) d_Br_areMates_55 (by decide)) ?_
        exact S.ret (fun Q hq => g_zret rfl rfl d_Br_areMates_56 hq)
      · refine S.of1 (pc2 := 31) (fun Q => g_aload_n d_Br_areMates_30 rfl) ?_
        refine S.of1 (pc2 := 34) (fun Q => g_getr fl_RX0_12 gc_18_0 d_Br_areMates_31) ?_
        refine S.of1 (pc2 := 37) (fun Q => g_getr fl_RX0_39 gc_19_1 d_Br_areMates_34) ?_
        refine S.of1 (pc2 := 38) (fun Q => g_iload_n d_Br_areMates_37 rfl) ?_
        refine S.chk (fun h6 => ?_)
        refine S.of1 (pc2 := 39) (fun Q => g_iald ga_21 (gix_in h6) d_Br_areMates_38) ?_
        refine S.of1 (pc2 := 40) (fun Q => g_aload_n d_Br_areMates_39 rfl) ?_
        refine S.of1 (pc2 := 43) (fun Q => g_getr fl_RX0_12 gc_18_0 d_Br_areMates_40) ?_
        refine S.of1 (pc2 := 46) (fun Q => g_getr fl_RX0_39 gc_19_1 d_Br_areMates_43) ?_
        refine S.of1 (pc2 := 47) (fun Q => g_iload_n d_Br_areMates_46 rfl) ?_
        refine S.chk (fun h7 => ?_)
        refine S.of1 (pc2 := 48) (fun Q => g_iald ga_21 (gix_in h7) d_Br_areMates_47) ?_
        refine S.br (c := (σ.1 21 x1.toNatClampNeg) = (σ.1 21 x2.toNatClampNeg)) (t := 55) (e := 51) (fun Q kt kf => g_icmp_eq d_Br_areMates_48 rfl kt kf) (fun h8 => ?_) (fun h8 => ?_)
        · refine S.of1 (pc2 := 56) (fun Q => g_iconst (v := (0 : Int32)) d_Br_areMates_55 (by decide)) ?_
          exact S.ret (fun Q hq => g_zret rfl rfl d_Br_areMates_56 hq)
        · refine S.of1 (pc2 := 52) (fun Q => g_iconst (v := (1 : Int32)) d_Br_areMates_51 (by decide)) ?_
          refine S.of1 (pc2 := 56) (fun Q => g_goto d_Br_areMates_52 rfl) ?_
          exact S.ret (fun Q hq => g_zret rfl rfl d_Br_areMates_56 hq)
def f_Br_costOfOne (v1 : Int32) (v2 : Int32) (σ : gS) : Option Int32 :=
  if gix v1 10 then if (σ.1 20 v1.toNatClampNeg) = v2 then some (0 : Int32) else if gix v1 10 then some (σ.1 26 v1.toNatClampNeg) else none else none
theorem c_Br_costOfOne (d : Nat) (hd : 1 ≤ d) (v1 : Int32) (v2 : Int32) (σ : gS) : C (rI σ) d m_Br_costOfOne [.ref 18, .int v1, .int v2] σ (f_Br_costOfOne v1 v2 σ) := by
  unfold f_Br_costOfOne
  refine C.of (by decide +kernel) (Nat.le_of_ble_eq_true rfl) (L := [some (.ref 18), some (.int v1), some (.int v2)]) rfl ?_
  refine S.of1 (pc2 := 1) (fun Q => g_aload_n d_Br_costOfOne_0 rfl) ?_
  refine S.of1 (pc2 := 4) (fun Q => g_getr fl_RX0_12 gc_18_0 d_Br_costOfOne_1) ?_
  refine S.of1 (pc2 := 7) (fun Q => g_getr fl_RX0_42 gc_19_0 d_Br_costOfOne_4) ?_
  refine S.of1 (pc2 := 8) (fun Q => g_iload_n d_Br_costOfOne_7 rfl) ?_
  refine S.chk (fun h1 => ?_)
  refine S.of1 (pc2 := 9) (fun Q => g_iald ga_20 (gix_in h1) d_Br_costOfOne_8) ?_
  refine S.of1 (pc2 := 10) (fun Q => g_iload_n d_Br_costOfOne_9 rfl) ?_
  refine S.br (c := (σ.1 20 v1.toNatClampNeg) = v2) (t := 13) (e := 17) (fun Q kt kf => g_icmp_ne d_Br_costOfOne_10 rfl kf kt) (fun h2 => ?_) (fun h2 => ?_)
  · refine S.of1 (pc2 := 14) (fun Q => g_iconst (v := (0 : Int32)) d_Br_costOfOne_13 (by decide)) ?_
    refine S.of1 (pc2 := 23) (fun Q => g_goto d_Br_costOfOne_14 rfl) ?_
    exact S.ret (fun Q hq => g_iret rfl d_Br_costOfOne_23 hq)
  · refine S.of1 (pc2 := 18) (fun Q => g_aload_n d_Br_costOfOne_17 rfl) ?_
    refine S.of1 (pc2 := 21) (fun Q => g_getr fl_RX0_18 gc_18_1 d_Br_costOfOne_18) ?_
    refine S.of1 (pc2 := 22) (fun Q => g_iload_n d_Br_costOfOne_21 rfl) ?_
    refine S.chk (fun h3 => ?_)
    refine S.of1 (pc2 := 23) (fun Q => g_iald ga_26 (gix_in h3) d_Br_costOfOne_22) ?_
    exact S.ret (fun Q hq => g_iret rfl d_Br_costOfOne_23 hq)
def f_Br_costOfPair (v1 : Int32) (v2 : Int32) (σ : gS) : Option Int32 :=
  (f_Br_costOfOne (v1 / (10 : Int32)) v2 σ).bind fun q1 => (f_Br_costOfOne (grem v1 (10 : Int32)) v2 σ).bind fun q2 => some (q1 + q2)
theorem c_Br_costOfPair (d : Nat) (hd : 2 ≤ d) (v1 : Int32) (v2 : Int32) (σ : gS) : C (rI σ) d m_Br_costOfPair [.ref 18, .int v1, .int v2] σ (f_Br_costOfPair v1 v2 σ) := by
  unfold f_Br_costOfPair
  refine C.of (by decide +kernel) (Nat.le_of_ble_eq_true rfl) (L := [some (.ref 18), some (.int v1), some (.int v2)]) rfl ?_
  refine S.of1 (pc2 := 1) (fun Q => g_aload_n d_Br_costOfPair_0 rfl) ?_
  refine S.of1 (pc2 := 2) (fun Q => g_iload_n d_Br_costOfPair_1 rfl) ?_
  refine S.of1 (pc2 := 4) (fun Q => g_bipush (v := (10 : Int32)) d_Br_costOfPair_2 (by decide)) ?_
  refine S.of1 (pc2 := 5) (fun Q => g_idiv d_Br_costOfPair_4 (by decide)) ?_
  refine S.of1 (pc2 := 6) (fun Q => g_iload_n d_Br_costOfPair_5 rfl) ?_
  refine S.call_rI (pc3 := 9) rfl (c_Br_costOfOne (d - 1) (by omega) (v1 / (10 : Int32)) v2 σ) (fun Q => g_callV (M2 := m_Br_costOfOne) (vs := [.int (v1 / (10 : Int32)), .int v2]) (st := []) lv_RX0_45 gk_18 rfl rfl (Nat.le_of_ble_eq_true rfl) (by omega) (Nat.le_of_ble_eq_true rfl) rfl d_Br_costOfPair_6) (fun q1 => ?_)
  refine S.of1 (pc2 := 10) (fun Q => g_aload_n d_Br_costOfPair_9 rfl) ?_
  refine S.of1 (pc2 := 11) (fun Q => g_iload_n d_Br_costOfPair_10 rfl) ?_
  refine S.of1 (pc2 := 13) (fun Q => g_bipush (v := (10 : Int32)) d_Br_costOfPair_11 (by decide)) ?_
  refine S.of1 (pc2 := 14) (fun Q => g_irem d_Br_costOfPair_13 (by decide)) ?_
  refine S.of1 (pc2 := 15) (fun Q => g_iload_n d_Br_costOfPair_14 rfl) ?_
  refine S.call_rI (pc3 := 18) rfl (c_Br_costOfOne (d - 1) (by omega) (grem v1 (10 : Int32)) v2 σ) (fun Q => g_callV (M2 := m_Br_costOfOne) (vs := [.int (grem v1 (10 : Int32)), .int v2]) (st := [.int q1]) lv_RX0_45 gk_18 rfl rfl (Nat.le_of_ble_eq_true rfl) (by omega) (Nat.le_of_ble_eq_true rfl) rfl d_Br_costOfPair_15) (fun q2 => ?_)
  refine S.of1 (pc2 := 19) (fun Q => g_iadd d_Br_costOfPair_18) ?_
  exact S.ret (fun Q hq => g_iret rfl d_Br_costOfPair_19 hq)
def f_Br_findPair_L8 : Nat → Int32 → Int32 → gS → Option (Int32 × gS)
  | 0, _, _, _ => none
  | n + 1, v1, v2, σ =>
  if (100 : Int32) ≤ v2 then if (1000000 : Int32) ≤ (σ.1 18 5) then some ((0 : Int32), σ) else some ((1 : Int32), σ) else (f_Br_areMates v2 σ).bind fun q4 => if q4 = 0 then (fun v1 v2 σ => f_Br_findPair_L8 n v1 v2 σ) v1 (v2 + (1 : Int32)) σ else (f_Br_costOfPair v2 v1 σ).bind fun q6 => if (σ.1 18 5) ≤ q6 then (fun v1 v2 σ => f_Br_findPair_L8 n v1 v2 σ) v1 (v2 + (1 : Int32)) σ else (f_Br_costOfPair v2 v1 σ).bind fun q8 => gup (gpi σ 18 5 q8) fun s9 => gup (gpi s9 18 6 v2) fun s10 => (fun v1 v2 σ => f_Br_findPair_L8 n v1 v2 σ) v1 (v2 + (1 : Int32)) s10
theorem s_Br_findPair_L8 (d : Nat) (hd : 3 ≤ d) : ∀ (n : Nat) (v1 : Int32) (v2 : Int32) (σ : gS), S wI m_Br_findPair d 8 [some (.ref 18), some (.int v1), some (.int v2)] [] σ (f_Br_findPair_L8 n v1 v2 σ) := by
  intro n
  induction n with
  | zero =>
    intros
    unfold f_Br_findPair_L8
    exact S.no
  | succ n ih =>
    intro v1 v2 σ
    unfold f_Br_findPair_L8
    refine S.of1 (pc2 := 9) (fun Q => g_iload_n d_Br_findPair_8 rfl) ?_
    refine S.of1 (pc2 := 11) (fun Q => g_bipush (v := (100 : Int32)) d_Br_findPair_9 (by decide)) ?_
    refine S.br (c := (100 : Int32) ≤ v2) (t := 56) (e := 14) (fun Q kt kf => g_icmp_ge d_Br_findPair_11 rfl kt kf) (fun h2 => ?_) (fun h2 => ?_)
    · refine S.of1 (pc2 := 57) (fun Q => g_aload_n d_Br_findPair_56 rfl) ?_
      refine S.of1 (pc2 := 60) (fun Q => g_geti fl_RX0_50 gc_18_5 d_Br_findPair_57) ?_
      refine S.of1 (pc2 := 62) (fun Q => g_ldc (v := (1000000 : Int32)) d_Br_findPair_60 w_795) ?_
      refine S.br (c := (1000000 : Int32) ≤ (σ.1 18 5)) (t := 69) (e := 65) (fun Q kt kf => g_icmp_ge d_Br_findPair_62 rfl kt kf) (fun h3 => ?_) (fun h3 => ?_)
      · refine S.of1 (pc2 := 70) (fun Q => g_iconst (v := (0 : Int32)) d_Br_findPair_69 (by decide)) ?_
        exact S.ret (fun Q hq => g_zret rfl rfl d_Br_findPair_70 hq)
      · refine S.of1 (pc2 := 66) (fun Q => g_iconst (v := (1 : Int32)) d_Br_findPair_65 (by decide)) ?_
        refine S.of1 (pc2 := 70) (fun Q => g_goto d_Br_findPair_66 rfl) ?_
        exact S.ret (fun Q hq => g_zret rfl rfl d_Br_findPair_70 hq)
    · refine S.of1 (pc2 := 15) (fun Q => g_aload_n d_Br_findPair_14 rfl) ?_
      refine S.of1 (pc2 := 16) (fun Q => g_iload_n d_Br_findPair_15 rfl) ?_
      refine S.call_rI (pc3 := 19) rfl (c_Br_areMates (d - 1) (by omega) v2 σ) (fun Q => g_callV (M2 := m_Br_areMates) (vs := [.int v2]) (st := []) lv_RX0_53 gk_18 rfl rfl (Nat.le_of_ble_eq_true rfl) (by omega) (Nat.le_of_ble_eq_true rfl) rfl d_Br_findPair_16) (fun q4 => ?_)
      refine S.br (c := q4 = 0) (t := 50) (e := 22) (fun Q kt kf => g_if_eq d_Br_findPair_19 rfl kt kf) (fun h5 => ?_) (fun h5 => ?_)
      · refine S.of1 (pc2 := 53) (L2 := [some (.ref 18), some (.int v1), some (.int (v2 + (1 : Int32)))]) (fun Q => g_iinc d_Br_findPair_50 rfl (congrArg (fun z => v2 + z) (by decide)) (Nat.le_of_ble_eq_true rfl) rfl) ?_
        refine S.of1 (pc2 := 8) (fun Q => g_goto d_Br_findPair_53 rfl) ?_
        exact S.wk (L2 := [some (.ref 18), some (.int v1), some (.int (v2 + (1 : Int32)))]) (And.intro rfl (And.intro rfl (And.intro rfl trivial))) (ih v1 (v2 + (1 : Int32)) σ)
      · refine S.of1 (pc2 := 23) (fun Q => g_aload_n d_Br_findPair_22 rfl) ?_
        refine S.of1 (pc2 := 24) (fun Q => g_iload_n d_Br_findPair_23 rfl) ?_
        refine S.of1 (pc2 := 25) (fun Q => g_iload_n d_Br_findPair_24 rfl) ?_
        refine S.call_rI (pc3 := 28) rfl (c_Br_costOfPair (d - 1) (by omega) v2 v1 σ) (fun Q => g_callV (M2 := m_Br_costOfPair) (vs := [.int v2, .int v1]) (st := []) lv_RX0_57 gk_18 rfl rfl (Nat.le_of_ble_eq_true rfl) (by omega) (Nat.le_of_ble_eq_true rfl) rfl d_Br_findPair_25) (fun q6 => ?_)
        refine S.of1 (pc2 := 29) (fun Q => g_aload_n d_Br_findPair_28 rfl) ?_
        refine S.of1 (pc2 := 32) (fun Q => g_geti fl_RX0_50 gc_18_5 d_Br_findPair_29) ?_
        refine S.br (c := (σ.1 18 5) ≤ q6) (t := 50) (e := 35) (fun Q kt kf => g_icmp_ge d_Br_findPair_32 rfl kt kf) (fun h7 => ?_) (fun h7 => ?_)
        · refine S.of1 (pc2 := 53) (L2 := [some (.ref 18), some (.int v1), some (.int (v2 + (1 : Int32)))]) (fun Q => g_iinc d_Br_findPair_50 rfl (congrArg (fun z => v2 + z) (by decide)) (Nat.le_of_ble_eq_true rfl) rfl) ?_
          refine S.of1 (pc2 := 8) (fun Q => g_goto d_Br_findPair_53 rfl) ?_
          exact S.wk (L2 := [some (.ref 18), some (.int v1), some (.int (v2 + (1 : Int32)))]) (And.intro rfl (And.intro rfl (And.intro rfl trivial))) (ih v1 (v2 + (1 : Int32)) σ)
        · refine S.of1 (pc2 := 36) (fun Q => g_aload_n d_Br_findPair_35 rfl) ?_
          refine S.of1 (pc2 := 37) (fun Q => g_aload_n d_Br_findPair_36 rfl) ?_
          refine S.of1 (pc2 := 38) (fun Q => g_iload_n d_Br_findPair_37 rfl) ?_
          refine S.of1 (pc2 := 39) (fun Q => g_iload_n d_Br_findPair_38 rfl) ?_
          refine S.call_rI (pc3 := 42) rfl (c_Br_costOfPair (d - 1) (by omega) v2 v1 σ) (fun Q => g_callV (M2 := m_Br_costOfPair) (vs := [.int v2, .int v1]) (st := [.ref 18]) lv_RX0_57 gk_18 rfl rfl (Nat.le_of_ble_eq_true rfl) (by omega) (Nat.le_of_ble_eq_true rfl) rfl d_Br_findPair_39) (fun q8 => ?_)
          refine S.of1 (pc2 := 45) (fun Q => g_puti fl_RX0_50 gc_18_5 rfl rfl d_Br_findPair_42) ?_
          refine S.gup (fun s9 => ?_)
          refine S.of1 (pc2 := 46) (fun Q => g_aload_n d_Br_findPair_45 rfl) ?_
          refine S.of1 (pc2 := 47) (fun Q => g_iload_n d_Br_findPair_46 rfl) ?_
          refine S.of1 (pc2 := 50) (fun Q => g_puti fl_RX0_60 gc_18_6 rfl rfl d_Br_findPair_47) ?_
          refine S.gup (fun s10 => ?_)
          refine S.of1 (pc2 := 53) (L2 := [some (.ref 18), some (.int v1), some (.int (v2 + (1 : Int32)))]) (fun Q => g_iinc d_Br_findPair_50 rfl (congrArg (fun z => v2 + z) (by decide)) (Nat.le_of_ble_eq_true rfl) rfl) ?_
          refine S.of1 (pc2 := 8) (fun Q => g_goto d_Br_findPair_53 rfl) ?_
          exact S.wk (L2 := [some (.ref 18), some (.int v1), some (.int (v2 + (1 : Int32)))]) (And.intro rfl (And.intro rfl (And.intro rfl trivial))) (ih v1 (v2 + (1 : Int32)) s10)
def f_Br_findPair (v1 : Int32) (σ : gS) : Option (Int32 × gS) :=
  gup (gpi σ 18 5 (1000000 : Int32)) fun s1 => f_Br_findPair_L8 gfu v1 (0 : Int32) s1
theorem c_Br_findPair (d : Nat) (hd : 3 ≤ d) (v1 : Int32) (σ : gS) : C wI d m_Br_findPair [.ref 18, .int v1] σ (f_Br_findPair v1 σ) := by
  unfold f_Br_findPair
  refine C.of (by decide +kernel) (Nat.le_of_ble_eq_true rfl) (L := [some (.ref 18), some (.int v1), none]) rfl ?_
  refine S.of1 (pc2 := 1) (fun Q => g_aload_n d_Br_findPair_0 rfl) ?_
  refine S.of1 (pc2 := 3) (fun Q => g_ldc (v := (1000000 : Int32)) d_Br_findPair_1 w_795) ?_
  refine S.of1 (pc2 := 6) (fun Q => g_puti fl_RX0_50 gc_18_5 rfl rfl d_Br_findPair_3) ?_
  refine S.gup (fun s1 => ?_)
  refine S.of1 (pc2 := 7) (fun Q => g_iconst (v := (0 : Int32)) d_Br_findPair_6 (by decide)) ?_
  refine S.of1 (pc2 := 8) (L2 := [some (.ref 18), some (.int v1), some (.int (0 : Int32))]) (fun Q => g_istore_n d_Br_findPair_7 (Nat.le_of_ble_eq_true rfl) rfl) ?_
  exact S.wk (L2 := [some (.ref 18), some (.int v1), some (.int (0 : Int32))]) (And.intro rfl (And.intro rfl (And.intro rfl trivial))) (s_Br_findPair_L8 d hd gfu v1 (0 : Int32) s1)
def f_T_pay (v1 : Int32) (v2 : Int32) (σ : gS) : Option (Int32 × gS) :=
  (f_T_within v1 (6 : Int32)).bind fun q1 => if q1 = 0 then some ((-1 : Int32), σ) else (f_T_within v2 (2 : Int32)).bind fun q3 => if q3 = 0 then some ((-1 : Int32), σ) else (f_Br_begin σ).bind fun s5 => (f_Br_findPair v1 s5).bind fun q6 => if q6.1 = 0 then some ((-2 : Int32), q6.2) else if v2 = 0 then some ((q6.2.1 18 5), q6.2) else some ((q6.2.1 18 6), q6.2)
theorem c_T_pay (d : Nat) (hd : 7 ≤ d) (v1 : Int32) (v2 : Int32) (σ : gS) : C wI d m_T_pay [.ref 0, .int v1, .int v2] σ (f_T_pay v1 v2 σ) := by
  unfold f_T_pay
  refine C.of (by decide +kernel) (Nat.le_of_ble_eq_true rfl) (L := [some (.ref 0), some (.int v1), some (.int v2)]) rfl ?_
  refine S.of1 (pc2 := 1) (fun Q => g_iload_n d_T_pay_0 rfl) ?_
  refine S.of1 (pc2 := 3) (fun Q => g_bipush (v := (6 : Int32)) d_T_pay_1 (by decide)) ?_
  refine S.call_rI (pc3 := 6) rfl (c_T_within (d - 1) (by omega) v1 (6 : Int32) σ) (fun Q => g_callS (M2 := m_T_within) (vs := [.int v1, .int (6 : Int32)]) (st := []) ls_RX10_72 rfl (Nat.le_of_ble_eq_true rfl) (by omega) (Nat.le_of_ble_eq_true rfl) rfl d_T_pay_3) (fun q1 => ?_)
  refine S.br (c := q1 = 0) (t := 17) (e := 9) (fun Q kt kf => g_if_eq d_T_pay_6 rfl kt kf) (fun h2 => ?_) (fun h2 => ?_)
  · refine S.of1 (pc2 := 18) (fun Q => g_iconst (v := (-1 : Int32)) d_T_pay_17 (by decide)) ?_
    exact S.ret (fun Q hq => g_iret rfl d_T_pay_18 hq)
  · refine S.of1 (pc2 := 10) (fun Q => g_iload_n d_T_pay_9 rfl) ?_
    refine S.of1 (pc2 := 11) (fun Q => g_iconst (v := (2 : Int32)) d_T_pay_10 (by decide)) ?_
    refine S.call_rI (pc3 := 14) rfl (c_T_within (d - 1) (by omega) v2 (2 : Int32) σ) (fun Q => g_callS (M2 := m_T_within) (vs := [.int v2, .int (2 : Int32)]) (st := []) ls_RX10_72 rfl (Nat.le_of_ble_eq_true rfl) (by omega) (Nat.le_of_ble_eq_true rfl) rfl d_T_pay_11) (fun q3 => ?_)
    refine S.br (c := q3 = 0) (t := 17) (e := 19) (fun Q kt kf => g_if_ne d_T_pay_14 rfl kf kt) (fun h4 => ?_) (fun h4 => ?_)
    · refine S.of1 (pc2 := 18) (fun Q => g_iconst (v := (-1 : Int32)) d_T_pay_17 (by decide)) ?_
      exact S.ret (fun Q hq => g_iret rfl d_T_pay_18 hq)
    · refine S.of1 (pc2 := 20) (fun Q => g_aload_n d_T_pay_19 rfl) ?_
      refine S.of1 (pc2 := 23) (fun Q => g_getr fl_RX10_26 gc_0_2 d_T_pay_20) ?_
      refine S.of1 (pc2 := 24) (fun Q => g_aload_n d_T_pay_23 rfl) ?_
      refine S.of1 (pc2 := 27) (fun Q => g_getr fl_RX10_10 gc_0_0 d_T_pay_24) ?_
      refine S.call_wV (pc3 := 30) rfl (c_Br_begin (d - 1) (by omega) σ) (fun Q => g_callV (M2 := m_Br_begin) (vs := [.ref 1]) (st := []) lv_RX10_161 gk_18 rfl rfl (Nat.le_of_ble_eq_true rfl) (by omega) (Nat.le_of_ble_eq_true rfl) rfl d_T_pay_27) (fun s5 => ?_)
      refine S.of1 (pc2 := 31) (fun Q => g_aload_n d_T_pay_30 rfl) ?_
      refine S.of1 (pc2 := 34) (fun Q => g_getr fl_RX10_26 gc_0_2 d_T_pay_31) ?_
      refine S.of1 (pc2 := 35) (fun Q => g_iload_n d_T_pay_34 rfl) ?_
      refine S.call_wI (pc3 := 38) rfl (c_Br_findPair (d - 1) (by omega) v1 s5) (fun Q => g_callV (M2 := m_Br_findPair) (vs := [.int v1]) (st := []) lv_RX10_164 gk_18 rfl rfl (Nat.le_of_ble_eq_true rfl) (by omega) (Nat.le_of_ble_eq_true rfl) rfl d_T_pay_35) (fun q6 => ?_)
      refine S.br (c := q6.1 = 0) (t := 41) (e := 44) (fun Q kt kf => g_if_ne d_T_pay_38 rfl kf kt) (fun h7 => ?_) (fun h7 => ?_)
      · refine S.of1 (pc2 := 43) (fun Q => g_bipush (v := (-2 : Int32)) d_T_pay_41 (by decide)) ?_
        exact S.ret (fun Q hq => g_iret rfl d_T_pay_43 hq)
      · refine S.of1 (pc2 := 45) (fun Q => g_iload_n d_T_pay_44 rfl) ?_
        refine S.br (c := v2 = 0) (t := 48) (e := 58) (fun Q kt kf => g_if_ne d_T_pay_45 rfl kf kt) (fun h8 => ?_) (fun h8 => ?_)
        · refine S.of1 (pc2 := 49) (fun Q => g_aload_n d_T_pay_48 rfl) ?_
          refine S.of1 (pc2 := 52) (fun Q => g_getr fl_RX10_26 gc_0_2 d_T_pay_49) ?_
          refine S.of1 (pc2 := 55) (fun Q => g_geti fl_RX10_168 gc_18_5 d_T_pay_52) ?_
          refine S.of1 (pc2 := 65) (fun Q => g_goto d_T_pay_55 rfl) ?_
          exact S.ret (fun Q hq => g_iret rfl d_T_pay_65 hq)
        · refine S.of1 (pc2 := 59) (fun Q => g_aload_n d_T_pay_58 rfl) ?_
          refine S.of1 (pc2 := 62) (fun Q => g_getr fl_RX10_26 gc_0_2 d_T_pay_59) ?_
          refine S.of1 (pc2 := 65) (fun Q => g_geti fl_RX10_171 gc_18_6 d_T_pay_62) ?_
          exact S.ret (fun Q hq => g_iret rfl d_T_pay_65 hq)
def f_T_areTwo (v0 : Int32) (v1 : Int32) : Option Int32 :=
  if v0 < 0 then some (0 : Int32) else if v1 ≤ (v0 / (10 : Int32)) then some (0 : Int32) else if v1 ≤ (grem v0 (10 : Int32)) then some (0 : Int32) else some (1 : Int32)
theorem c_T_areTwo (d : Nat) (hd : 1 ≤ d) (v0 : Int32) (v1 : Int32) (σ : gS) : C (rI σ) d m_T_areTwo [.int v0, .int v1] σ (f_T_areTwo v0 v1) := by
  unfold f_T_areTwo
  refine C.of (by decide +kernel) (Nat.le_of_ble_eq_true rfl) (L := [some (.int v0), some (.int v1)]) rfl ?_
  refine S.of1 (pc2 := 1) (fun Q => g_iload_n d_T_areTwo_0 rfl) ?_
  refine S.br (c := v0 < 0) (t := 24) (e := 4) (fun Q kt kf => g_if_lt d_T_areTwo_1 rfl kt kf) (fun h1 => ?_) (fun h1 => ?_)
  · refine S.of1 (pc2 := 25) (fun Q => g_iconst (v := (0 : Int32)) d_T_areTwo_24 (by decide)) ?_
    exact S.ret (fun Q hq => g_zret rfl rfl d_T_areTwo_25 hq)
  · refine S.of1 (pc2 := 5) (fun Q => g_iload_n d_T_areTwo_4 rfl) ?_
    refine S.of1 (pc2 := 7) (fun Q => g_bipush (v := (10 : Int32)) d_T_areTwo_5 (by decide)) ?_
    refine S.of1 (pc2 := 8) (fun Q => g_idiv d_T_areTwo_7 (by decide)) ?_
    refine S.of1 (pc2 := 9) (fun Q => g_iload_n d_T_areTwo_8 rfl) ?_
    refine S.br (c := v1 ≤ (v0 / (10 : Int32))) (t := 24) (e := 12) (fun Q kt kf => g_icmp_ge d_T_areTwo_9 rfl kt kf) (fun h2 => ?_) (fun h2 => ?_)
    · refine S.of1 (pc2 := 25) (fun Q => g_iconst (v := (0 : Int32)) d_T_areTwo_24 (by decide)) ?_
      exact S.ret (fun Q hq => g_zret rfl rfl d_T_areTwo_25 hq)
    · refine S.of1 (pc2 := 13) (fun Q => g_iload_n d_T_areTwo_12 rfl) ?_
      refine S.of1 (pc2 := 15) (fun Q => g_bipush (v := (10 : Int32)) d_T_areTwo_13 (by decide)) ?_
      refine S.of1 (pc2 := 16) (fun Q => g_irem d_T_areTwo_15 (by decide)) ?_
      refine S.of1 (pc2 := 17) (fun Q => g_iload_n d_T_areTwo_16 rfl) ?_
      refine S.br (c := v1 ≤ (grem v0 (10 : Int32))) (t := 24) (e := 20) (fun Q kt kf => g_icmp_ge d_T_areTwo_17 rfl kt kf) (fun h3 => ?_) (fun h3 => ?_)
      · refine S.of1 (pc2 := 25) (fun Q => g_iconst (v := (0 : Int32)) d_T_areTwo_24 (by decide)) ?_
        exact S.ret (fun Q hq => g_zret rfl rfl d_T_areTwo_25 hq)
      · refine S.of1 (pc2 := 21) (fun Q => g_iconst (v := (1 : Int32)) d_T_areTwo_20 (by decide)) ?_
        refine S.of1 (pc2 := 25) (fun Q => g_goto d_T_areTwo_21 rfl) ?_
        exact S.ret (fun Q hq => g_zret rfl rfl d_T_areTwo_25 hq)
def f_Br_areApart (v0 : Int32) (v1 : Int32) : Option Int32 :=
  if (v0 / (10 : Int32)) = (v1 / (10 : Int32)) then some (0 : Int32) else if (v0 / (10 : Int32)) = (grem v1 (10 : Int32)) then some (0 : Int32) else if (grem v0 (10 : Int32)) = (v1 / (10 : Int32)) then some (0 : Int32) else if (grem v0 (10 : Int32)) = (grem v1 (10 : Int32)) then some (0 : Int32) else some (1 : Int32)
theorem c_Br_areApart (d : Nat) (hd : 1 ≤ d) (v0 : Int32) (v1 : Int32) (σ : gS) : C (rI σ) d m_Br_areApart [.int v0, .int v1] σ (f_Br_areApart v0 v1) := by
  unfold f_Br_areApart
  refine C.of (by decide +kernel) (Nat.le_of_ble_eq_true rfl) (L := [some (.int v0), some (.int v1)]) rfl ?_
  refine S.of1 (pc2 := 1) (fun Q => g_iload_n d_Br_areApart_0 rfl) ?_
  refine S.of1 (pc2 := 3) (fun Q => g_bipush (v := (10 : Int32)) d_Br_areApart_1 (by decide)) ?_
  refine S.of1 (pc2 := 4) (fun Q => g_idiv d_Br_areApart_3 (by decide)) ?_
  refine S.of1 (pc2 := 5) (fun Q => g_iload_n d_Br_areApart_4 rfl) ?_
  refine S.of1 (pc2 := 7) (fun Q => g_bipush (v := (10 : Int32)) d_Br_areApart_5 (by decide)) ?_
  refine S.of1 (pc2 := 8) (fun Q => g_idiv d_Br_areApart_7 (by decide)) ?_
  refine S.br (c := (v0 / (10 : Int32)) = (v1 / (10 : Int32))) (t := 48) (e := 11) (fun Q kt kf => g_icmp_eq d_Br_areApart_8 rfl kt kf) (fun h1 => ?_) (fun h1 => ?_)
  · refine S.of1 (pc2 := 49) (fun Q => g_iconst (v := (0 : Int32)) d_Br_areApart_48 (by decide)) ?_
    exact S.ret (fun Q hq => g_zret rfl rfl d_Br_areApart_49 hq)
  · refine S.of1 (pc2 := 12) (fun Q => g_iload_n d_Br_areApart_11 rfl) ?_
    refine S.of1 (pc2 := 14) (fun Q => g_bipush (v := (10 : Int32)) d_Br_areApart_12 (by decide)) ?_
    refine S.of1 (pc2 := 15) (fun Q => g_idiv d_Br_areApart_14 (by decide)) ?_
    refine S.of1 (pc2 := 16) (fun Q => g_iload_n d_Br_areApart_15 rfl) ?_
    refine S.of1 (pc2 := 18) (fun Q => g_bipush (v := (10 : Int32)) d_Br_areApart_16 (by decide)) ?_
    refine S.of1 (pc2 := 19) (fun Q => g_irem d_Br_areApart_18 (by decide)) ?_
    refine S.br (c := (v0 / (10 : Int32)) = (grem v1 (10 : Int32))) (t := 48) (e := 22) (fun Q kt kf => g_icmp_eq d_Br_areApart_19 rfl kt kf) (fun h2 => ?_) (fun h2 => ?_)
    · refine S.of1 (pc2 := 49) (fun Q => g_iconst (v := (0 : Int32)) d_Br_areApart_48 (by decide)) ?_
      exact S.ret (fun Q hq => g_zret rfl rfl d_Br_areApart_49 hq)
    · refine S.of1 (pc2 := 23) (fun Q => g_iload_n d_Br_areApart_22 rfl) ?_
      refine S.of1 (pc2 := 25) (fun Q => g_bipush (v := (10 : Int32)) d_Br_areApart_23 (by decide)) ?_
      refine S.of1 (pc2 := 26) (fun Q => g_irem d_Br_areApart_25 (by decide)) ?_
      refine S.of1 (pc2 := 27) (fun Q => g_iload_n d_Br_areApart_26 rfl) ?_
      refine S.of1 (pc2 := 29) (fun Q => g_bipush (v := (10 : Int32)) d_Br_areApart_27 (by decide)) ?_
      refine S.of1 (pc2 := 30) (fun Q => g_idiv d_Br_areApart_29 (by decide)) ?_
      refine S.br (c := (grem v0 (10 : Int32)) = (v1 / (10 : Int32))) (t := 48) (e := 33) (fun Q kt kf => g_icmp_eq d_Br_areApart_30 rfl kt kf) (fun h3 => ?_) (fun h3 => ?_)
      · refine S.of1 (pc2 := 49) (fun Q => g_iconst (v := (0 : Int32)) d_Br_areApart_48 (by decide)) ?_
        exact S.ret (fun Q hq => g_zret rfl rfl d_Br_areApart_49 hq)
      · refine S.of1 (pc2 := 34) (fun Q => g_iload_n d_Br_areApart_33 rfl) ?_
        refine S.of1 (pc2 := 36) (fun Q => g_bipush (v := (10 : Int32)) d_Br_areApart_34 (by decide)) ?_
        refine S.of1 (pc2 := 37) (fun Q => g_irem d_Br_areApart_36 (by decide)) ?_
        refine S.of1 (pc2 := 38) (fun Q => g_iload_n d_Br_areApart_37 rfl) ?_
        refine S.of1 (pc2 := 40) (fun Q => g_bipush (v := (10 : Int32)) d_Br_areApart_38 (by decide)) ?_
        refine S.of1 (pc2 := 41) (fun Q => g_irem d_Br_areApart_40 (by decide)) ?_
        refine S.br (c := (grem v0 (10 : Int32)) = (grem v1 (10 : Int32))) (t := 48) (e := 44) (fun Q kt kf => g_icmp_eq d_Br_areApart_41 rfl kt kf) (fun h4 => ?_) (fun h4 => ?_)
        · refine S.of1 (pc2 := 49) (fun Q => g_iconst (v := (0 : Int32)) d_Br_areApart_48 (by decide)) ?_
          exact S.ret (fun Q hq => g_zret rfl rfl d_Br_areApart_49 hq)
        · refine S.of1 (pc2 := 45) (fun Q => g_iconst (v := (1 : Int32)) d_Br_areApart_44 (by decide)) ?_
          refine S.of1 (pc2 := 49) (fun Q => g_goto d_Br_areApart_45 rfl) ?_
          exact S.ret (fun Q hq => g_zret rfl rfl d_Br_areApart_49 hq)
def f_Br_findOther_L3 : Nat → Int32 → Int32 → Int32 → Int32 → gS → Option gS
  | 0, _, _, _, _, _ => none
  | n + 1, v1, v2, v3, v4, σ =>
  if (100 : Int32) ≤ v4 then some σ else (f_Br_areMates v4 σ).bind fun q2 => if q2 = 0 then (fun v1 v2 v3 v4 σ => f_Br_findOther_L3 n v1 v2 v3 v4 σ) v1 v2 v3 (v4 + (1 : Int32)) σ else (f_Br_areApart v1 v4).bind fun q4 => if q4 = 0 then (fun v1 v2 v3 v4 σ => f_Br_findOther_L3 n v1 v2 v3 v4 σ) v1 v2 v3 (v4 + (1 : Int32)) σ else (f_Br_costOfPair v4 v3 σ).bind fun q6 => if (σ.1 18 5) ≤ (v2 + q6) then (fun v1 v2 v3 v4 σ => f_Br_findOther_L3 n v1 v2 v3 v4 σ) v1 v2 v3 (v4 + (1 : Int32)) σ else (f_Br_costOfPair v4 v3 σ).bind fun q8 => gup (gpi σ 18 5 (v2 + q8)) fun s9 => gup (gpi s9 18 6 v1) fun s10 => gup (gpi s10 18 7 v4) fun s11 => (fun v1 v2 v3 v4 σ => f_Br_findOther_L3 n v1 v2 v3 v4 σ) v1 v2 v3 (v4 + (1 : Int32)) s11
theorem s_Br_findOther_L3 (d : Nat) (hd : 3 ≤ d) : ∀ (n : Nat) (v1 : Int32) (v2 : Int32) (v3 : Int32) (v4 : Int32) (σ : gS), S wV m_Br_findOther d 3 [some (.ref 18), some (.int v1), some (.int v2), some (.int v3), some (.int v4)] [] σ (f_Br_findOther_L3 n v1 v2 v3 v4 σ) := by
  intro n
  induction n with
  | zero =>
    intros
    unfold f_Br_findOther_L3
    exact S.no
  | succ n ih =>
    intro v1 v2 v3 v4 σ
    unfold f_Br_findOther_L3
    refine S.of1 (pc2 := 5) (fun Q => g_iload d_Br_findOther_3 rfl) ?_
    refine S.of1 (pc2 := 7) (fun Q => g_bipush (v := (100 : Int32)) d_Br_findOther_5 (by decide)) ?_
    refine S.br (c := (100 : Int32) ≤ v4) (t := 74) (e := 10) (fun Q kt kf => g_icmp_ge d_Br_findOther_7 rfl kt kf) (fun h1 => ?_) (fun h1 => ?_)
    · exact S.ret (fun Q hq => g_vret rfl d_Br_findOther_74 hq)
    · refine S.of1 (pc2 := 11) (fun Q => g_aload_n d_Br_findOther_10 rfl) ?_
      refine S.of1 (pc2 := 13) (fun Q => g_iload d_Br_findOther_11 rfl) ?_
      refine S.call_rI (pc3 := 16) rfl (c_Br_areMates (d - 1) (by omega) v4 σ) (fun Q => g_callV (M2 := m_Br_areMates) (vs := [.int v4]) (st := []) lv_RX0_53 gk_18 rfl rfl (Nat.le_of_ble_eq_true rfl) (by omega) (Nat.le_of_ble_eq_true rfl) rfl d_Br_findOther_13) (fun q2 => ?_)
      refine S.br (c := q2 = 0) (t := 68) (e := 19) (fun Q kt kf => g_if_eq d_Br_findOther_16 rfl kt kf) (fun h3 => ?_) (fun h3 => ?_)
      · refine S.of1 (pc2 := 71) (L2 := [some (.ref 18), some (.int v1), some (.int v2), some (.int v3), some (.int (v4 + (1 : Int32)))]) (fun Q => g_iinc d_Br_findOther_68 rfl (congrArg (fun z => v4 + z) (by decide)) (Nat.le_of_ble_eq_true rfl) rfl) ?_
        refine S.of1 (pc2 := 3) (fun Q => g_goto d_Br_findOther_71 rfl) ?_
        exact S.wk (L2 := [some (.ref 18), some (.int v1), some (.int v2), some (.int v3), some (.int (v4 + (1 : Int32)))]) (And.intro rfl (And.intro rfl (And.intro rfl (And.intro rfl (And.intro rfl trivial))))) (ih v1 v2 v3 (v4 + (1 : Int32)) σ)
      · refine S.of1 (pc2 := 20) (fun Q => g_iload_n d_Br_findOther_19 rfl) ?_
        refine S.of1 (pc2 := 22) (fun Q => g_iload d_Br_findOther_20 rfl) ?_
        refine S.call_rI (pc3 := 25) rfl (c_Br_areApart (d - 1) (by omega) v1 v4 σ) (fun Q => g_callS (M2 := m_Br_areApart) (vs := [.int v1, .int v4]) (st := []) ls_RX0_67 rfl (Nat.le_of_ble_eq_true rfl) (by omega) (Nat.le_of_ble_eq_true rfl) rfl d_Br_findOther_22) (fun q4 => ?_)
        refine S.br (c := q4 = 0) (t := 68) (e := 28) (fun Q kt kf => g_if_eq d_Br_findOther_25 rfl kt kf) (fun h5 => ?_) (fun h5 => ?_)
        · refine S.of1 (pc2 := 71) (L2 := [some (.ref 18), some (.int v1), some (.int v2), some (.int v3), some (.int (v4 + (1 : Int32)))]) (fun Q => g_iinc d_Br_findOther_68 rfl (congrArg (fun z => v4 + z) (by decide)) (Nat.le_of_ble_eq_true rfl) rfl) ?_
          refine S.of1 (pc2 := 3) (fun Q => g_goto d_Br_findOther_71 rfl) ?_
          exact S.wk (L2 := [some (.ref 18), some (.int v1), some (.int v2), some (.int v3), some (.int (v4 + (1 : Int32)))]) (And.intro rfl (And.intro rfl (And.intro rfl (And.intro rfl (And.intro rfl trivial))))) (ih v1 v2 v3 (v4 + (1 : Int32)) σ)
        · refine S.of1 (pc2 := 29) (fun Q => g_iload_n d_Br_findOther_28 rfl) ?_
          refine S.of1 (pc2 := 30) (fun Q => g_aload_n d_Br_findOther_29 rfl) ?_
          refine S.of1 (pc2 := 32) (fun Q => g_iload d_Br_findOther_30 rfl) ?_
          refine S.of1 (pc2 := 33) (fun Q => g_iload_n d_Br_findOther_32 rfl) ?_
          refine S.call_rI (pc3 := 36) rfl (c_Br_costOfPair (d - 1) (by omega) v4 v3 σ) (fun Q => g_callV (M2 := m_Br_costOfPair) (vs := [.int v4, .int v3]) (st := [.int v2]) lv_RX0_57 gk_18 rfl rfl (Nat.le_of_ble_eq_true rfl) (by omega) (Nat.le_of_ble_eq_true rfl) rfl d_Br_findOther_33) (fun q6 => ?_)
          refine S.of1 (pc2 := 37) (fun Q => g_iadd d_Br_findOther_36) ?_
          refine S.of1 (pc2 := 38) (fun Q => g_aload_n d_Br_findOther_37 rfl) ?_
          refine S.of1 (pc2 := 41) (fun Q => g_geti fl_RX0_50 gc_18_5 d_Br_findOther_38) ?_
          refine S.br (c := (σ.1 18 5) ≤ (v2 + q6)) (t := 68) (e := 44) (fun Q kt kf => g_icmp_ge d_Br_findOther_41 rfl kt kf) (fun h7 => ?_) (fun h7 => ?_)
          · refine S.of1 (pc2 := 71) (L2 := [some (.ref 18), some (.int v1), some (.int v2), some (.int v3), some (.int (v4 + (1 : Int32)))]) (fun Q => g_iinc d_Br_findOther_68 rfl (congrArg (fun z => v4 + z) (by decide)) (Nat.le_of_ble_eq_true rfl) rfl) ?_
            refine S.of1 (pc2 := 3) (fun Q => g_goto d_Br_findOther_71 rfl) ?_
            exact S.wk (L2 := [some (.ref 18), some (.int v1), some (.int v2), some (.int v3), some (.int (v4 + (1 : Int32)))]) (And.intro rfl (And.intro rfl (And.intro rfl (And.intro rfl (And.intro rfl trivial))))) (ih v1 v2 v3 (v4 + (1 : Int32)) σ)
          · refine S.of1 (pc2 := 45) (fun Q => g_aload_n d_Br_findOther_44 rfl) ?_
            refine S.of1 (pc2 := 46) (fun Q => g_iload_n d_Br_findOther_45 rfl) ?_
            refine S.of1 (pc2 := 47) (fun Q => g_aload_n d_Br_findOther_46 rfl) ?_
            refine S.of1 (pc2 := 49) (fun Q => g_iload d_Br_findOther_47 rfl) ?_
            refine S.of1 (pc2 := 50) (fun Q => g_iload_n d_Br_findOther_49 rfl) ?_
            refine S.call_rI (pc3 := 53) rfl (c_Br_costOfPair (d - 1) (by omega) v4 v3 σ) (fun Q => g_callV (M2 := m_Br_costOfPair) (vs := [.int v4, .int v3]) (st := [.int v2, .ref 18]) lv_RX0_57 gk_18 rfl rfl (Nat.le_of_ble_eq_true rfl) (by omega) (Nat.le_of_ble_eq_true rfl) rfl d_Br_findOther_50) (fun q8 => ?_)
            refine S.of1 (pc2 := 54) (fun Q => g_iadd d_Br_findOther_53) ?_
            refine S.of1 (pc2 := 57) (fun Q => g_puti fl_RX0_50 gc_18_5 rfl rfl d_Br_findOther_54) ?_
            refine S.gup (fun s9 => ?_)
            refine S.of1 (pc2 := 58) (fun Q => g_aload_n d_Br_findOther_57 rfl) ?_
            refine S.of1 (pc2 := 59) (fun Q => g_iload_n d_Br_findOther_58 rfl) ?_
            refine S.of1 (pc2 := 62) (fun Q => g_puti fl_RX0_60 gc_18_6 rfl rfl d_Br_findOther_59) ?_
            refine S.gup (fun s10 => ?_)
            refine S.of1 (pc2 := 63) (fun Q => g_aload_n d_Br_findOther_62 rfl) ?_
            refine S.of1 (pc2 := 65) (fun Q => g_iload d_Br_findOther_63 rfl) ?_
            refine S.of1 (pc2 := 68) (fun Q => g_puti fl_RX0_71 gc_18_7 rfl rfl d_Br_findOther_65) ?_
            refine S.gup (fun s11 => ?_)
            refine S.of1 (pc2 := 71) (L2 := [some (.ref 18), some (.int v1), some (.int v2), some (.int v3), some (.int (v4 + (1 : Int32)))]) (fun Q => g_iinc d_Br_findOther_68 rfl (congrArg (fun z => v4 + z) (by decide)) (Nat.le_of_ble_eq_true rfl) rfl) ?_
            refine S.of1 (pc2 := 3) (fun Q => g_goto d_Br_findOther_71 rfl) ?_
            exact S.wk (L2 := [some (.ref 18), some (.int v1), some (.int v2), some (.int v3), some (.int (v4 + (1 : Int32)))]) (And.intro rfl (And.intro rfl (And.intro rfl (And.intro rfl (And.intro rfl trivial))))) (ih v1 v2 v3 (v4 + (1 : Int32)) s11)
def f_Br_findOther (v1 : Int32) (v2 : Int32) (v3 : Int32) (σ : gS) : Option gS :=
  f_Br_findOther_L3 gfu v1 v2 v3 (0 : Int32) σ
theorem c_Br_findOther (d : Nat) (hd : 3 ≤ d) (v1 : Int32) (v2 : Int32) (v3 : Int32) (σ : gS) : C wV d m_Br_findOther [.ref 18, .int v1, .int v2, .int v3] σ (f_Br_findOther v1 v2 v3 σ) := by
  unfold f_Br_findOther
  refine C.of (by decide +kernel) (Nat.le_of_ble_eq_true rfl) (L := [some (.ref 18), some (.int v1), some (.int v2), some (.int v3), none]) rfl ?_
  refine S.of1 (pc2 := 1) (fun Q => g_iconst (v := (0 : Int32)) d_Br_findOther_0 (by decide)) ?_
  refine S.of1 (pc2 := 3) (L2 := [some (.ref 18), some (.int v1), some (.int v2), some (.int v3), some (.int (0 : Int32))]) (fun Q => g_istore d_Br_findOther_1 (Nat.le_of_ble_eq_true rfl) rfl) ?_
  exact S.wk (L2 := [some (.ref 18), some (.int v1), some (.int v2), some (.int v3), some (.int (0 : Int32))]) (And.intro rfl (And.intro rfl (And.intro rfl (And.intro rfl (And.intro rfl trivial))))) (s_Br_findOther_L3 d hd gfu v1 v2 v3 (0 : Int32) σ)
def f_Br_findTwoPairs_L8 : Nat → Int32 → Int32 → Int32 → gS → Option (Int32 × gS)
  | 0, _, _, _, _ => none
  | n + 1, v1, v2, v3, σ =>
  if (100 : Int32) ≤ v3 then if (1000000 : Int32) ≤ (σ.1 18 5) then some ((0 : Int32), σ) else some ((1 : Int32), σ) else (f_Br_areMates v3 σ).bind fun q4 => if q4 = 0 then (fun v1 v2 v3 σ => f_Br_findTwoPairs_L8 n v1 v2 v3 σ) v1 v2 (v3 + (1 : Int32)) σ else (f_Br_costOfPair v3 v1 σ).bind fun q6 => (f_Br_findOther v3 q6 v2 σ).bind fun s7 => (fun v1 v2 v3 σ => f_Br_findTwoPairs_L8 n v1 v2 v3 σ) v1 v2 (v3 + (1 : Int32)) s7
theorem s_Br_findTwoPairs_L8 (d : Nat) (hd : 4 ≤ d) : ∀ (n : Nat) (v1 : Int32) (v2 : Int32) (v3 : Int32) (σ : gS), S wI m_Br_findTwoPairs d 8 [some (.ref 18), some (.int v1), some (.int v2), some (.int v3)] [] σ (f_Br_findTwoPairs_L8 n v1 v2 v3 σ) := by
  intro n
  induction n with
  | zero =>
    intros
    unfold f_Br_findTwoPairs_L8
    exact S.no
  | succ n ih =>
    intro v1 v2 v3 σ
    unfold f_Br_findTwoPairs_L8
    refine S.of1 (pc2 := 9) (fun Q => g_iload_n d_Br_findTwoPairs_8 rfl) ?_
    refine S.of1 (pc2 := 11) (fun Q => g_bipush (v := (100 : Int32)) d_Br_findTwoPairs_9 (by decide)) ?_
    refine S.br (c := (100 : Int32) ≤ v3) (t := 40) (e := 14) (fun Q kt kf => g_icmp_ge d_Br_findTwoPairs_11 rfl kt kf) (fun h2 => ?_) (fun h2 => ?_)
    · refine S.of1 (pc2 := 41) (fun Q => g_aload_n d_Br_findTwoPairs_40 rfl) ?_
      refine S.of1 (pc2 := 44) (fun Q => g_geti fl_RX0_50 gc_18_5 d_Br_findTwoPairs_41) ?_
      refine S.of1 (pc2 := 46) (fun Q => g_ldc (v := (1000000 : Int32)) d_Br_findTwoPairs_44 w_795) ?_
      refine S.br (c := (1000000 : Int32) ≤ (σ.1 18 5)) (t := 53) (e := 49) (fun Q kt kf => g_icmp_ge d_Br_findTwoPairs_46 rfl kt kf) (fun h3 => ?_) (fun h3 => ?_)
      · refine S.of1 (pc2 := 54) (fun Q => g_iconst (v := (0 : Int32)) d_Br_findTwoPairs_53 (by decide)) ?_
        exact S.ret (fun Q hq => g_zret rfl rfl d_Br_findTwoPairs_54 hq)
      · refine S.of1 (pc2 := 50) (fun Q => g_iconst (v := (1 : Int32)) d_Br_findTwoPairs_49 (by decide)) ?_
        refine S.of1 (pc2 := 54) (fun Q => g_goto d_Br_findTwoPairs_50 rfl) ?_
        exact S.ret (fun Q hq => g_zret rfl rfl d_Br_findTwoPairs_54 hq)
    · refine S.of1 (pc2 := 15) (fun Q => g_aload_n d_Br_findTwoPairs_14 rfl) ?_
      refine S.of1 (pc2 := 16) (fun Q => g_iload_n d_Br_findTwoPairs_15 rfl) ?_
      refine S.call_rI (pc3 := 19) rfl (c_Br_areMates (d - 1) (by omega) v3 σ) (fun Q => g_callV (M2 := m_Br_areMates) (vs := [.int v3]) (st := []) lv_RX0_53 gk_18 rfl rfl (Nat.le_of_ble_eq_true rfl) (by omega) (Nat.le_of_ble_eq_true rfl) rfl d_Br_findTwoPairs_16) (fun q4 => ?_)
      refine S.br (c := q4 = 0) (t := 34) (e := 22) (fun Q kt kf => g_if_eq d_Br_findTwoPairs_19 rfl kt kf) (fun h5 => ?_) (fun h5 => ?_)
      · refine S.of1 (pc2 := 37) (L2 := [some (.ref 18), some (.int v1), some (.int v2), some (.int (v3 + (1 : Int32)))]) (fun Q => g_iinc d_Br_findTwoPairs_34 rfl (congrArg (fun z => v3 + z) (by decide)) (Nat.le_of_ble_eq_true rfl) rfl) ?_
        refine S.of1 (pc2 := 8) (fun Q => g_goto d_Br_findTwoPairs_37 rfl) ?_
        exact S.wk (L2 := [some (.ref 18), some (.int v1), some (.int v2), some (.int (v3 + (1 : Int32)))]) (And.intro rfl (And.intro rfl (And.intro rfl (And.intro rfl trivial)))) (ih v1 v2 (v3 + (1 : Int32)) σ)
      · refine S.of1 (pc2 := 23) (fun Q => g_aload_n d_Br_findTwoPairs_22 rfl) ?_
        refine S.of1 (pc2 := 24) (fun Q => g_iload_n d_Br_findTwoPairs_23 rfl) ?_
        refine S.of1 (pc2 := 25) (fun Q => g_aload_n d_Br_findTwoPairs_24 rfl) ?_
        refine S.of1 (pc2 := 26) (fun Q => g_iload_n d_Br_findTwoPairs_25 rfl) ?_
        refine S.of1 (pc2 := 27) (fun Q => g_iload_n d_Br_findTwoPairs_26 rfl) ?_
        refine S.call_rI (pc3 := 30) rfl (c_Br_costOfPair (d - 1) (by omega) v3 v1 σ) (fun Q => g_callV (M2 := m_Br_costOfPair) (vs := [.int v3, .int v1]) (st := [.int v3, .ref 18]) lv_RX0_57 gk_18 rfl rfl (Nat.le_of_ble_eq_true rfl) (by omega) (Nat.le_of_ble_eq_true rfl) rfl d_Br_findTwoPairs_27) (fun q6 => ?_)
        refine S.of1 (pc2 := 31) (fun Q => g_iload_n d_Br_findTwoPairs_30 rfl) ?_
        refine S.call_wV (pc3 := 34) rfl (c_Br_findOther (d - 1) (by omega) v3 q6 v2 σ) (fun Q => g_callV (M2 := m_Br_findOther) (vs := [.int v3, .int q6, .int v2]) (st := []) lv_RX0_63 gk_18 rfl rfl (Nat.le_of_ble_eq_true rfl) (by omega) (Nat.le_of_ble_eq_true rfl) rfl d_Br_findTwoPairs_31) (fun s7 => ?_)
        refine S.of1 (pc2 := 37) (L2 := [some (.ref 18), some (.int v1), some (.int v2), some (.int (v3 + (1 : Int32)))]) (fun Q => g_iinc d_Br_findTwoPairs_34 rfl (congrArg (fun z => v3 + z) (by decide)) (Nat.le_of_ble_eq_true rfl) rfl) ?_
        refine S.of1 (pc2 := 8) (fun Q => g_goto d_Br_findTwoPairs_37 rfl) ?_
        exact S.wk (L2 := [some (.ref 18), some (.int v1), some (.int v2), some (.int (v3 + (1 : Int32)))]) (And.intro rfl (And.intro rfl (And.intro rfl (And.intro rfl trivial)))) (ih v1 v2 (v3 + (1 : Int32)) s7)
def f_Br_findTwoPairs (v1 : Int32) (v2 : Int32) (σ : gS) : Option (Int32 × gS) :=
  gup (gpi σ 18 5 (1000000 : Int32)) fun s1 => f_Br_findTwoPairs_L8 gfu v1 v2 (0 : Int32) s1
theorem c_Br_findTwoPairs (d : Nat) (hd : 4 ≤ d) (v1 : Int32) (v2 : Int32) (σ : gS) : C wI d m_Br_findTwoPairs [.ref 18, .int v1, .int v2] σ (f_Br_findTwoPairs v1 v2 σ) := by
  unfold f_Br_findTwoPairs
  refine C.of (by decide +kernel) (Nat.le_of_ble_eq_true rfl) (L := [some (.ref 18), some (.int v1), some (.int v2), none]) rfl ?_
  refine S.of1 (pc2 := 1) (fun Q => g_aload_n d_Br_findTwoPairs_0 rfl) ?_
  refine S.of1 (pc2 := 3) (fun Q => g_ldc (v := (1000000 : Int32)) d_Br_findTwoPairs_1 w_795) ?_
  refine S.of1 (pc2 := 6) (fun Q => g_puti fl_RX0_50 gc_18_5 rfl rfl d_Br_findTwoPairs_3) ?_
  refine S.gup (fun s1 => ?_)
  refine S.of1 (pc2 := 7) (fun Q => g_iconst (v := (0 : Int32)) d_Br_findTwoPairs_6 (by decide)) ?_
  refine S.of1 (pc2 := 8) (L2 := [some (.ref 18), some (.int v1), some (.int v2), some (.int (0 : Int32))]) (fun Q => g_istore_n d_Br_findTwoPairs_7 (Nat.le_of_ble_eq_true rfl) rfl) ?_
  exact S.wk (L2 := [some (.ref 18), some (.int v1), some (.int v2), some (.int (0 : Int32))]) (And.intro rfl (And.intro rfl (And.intro rfl (And.intro rfl trivial)))) (s_Br_findTwoPairs_L8 d hd gfu v1 v2 (0 : Int32) s1)
def f_T_payBoth (v1 : Int32) (v2 : Int32) (σ : gS) : Option (Int32 × gS) :=
  (f_T_areTwo v1 (6 : Int32)).bind fun q1 => if q1 = 0 then some ((-1 : Int32), σ) else if (v1 / (10 : Int32)) = (grem v1 (10 : Int32)) then some ((-1 : Int32), σ) else (f_T_within v2 (3 : Int32)).bind fun q4 => if q4 = 0 then some ((-1 : Int32), σ) else (f_Br_begin σ).bind fun s6 => (f_Br_findTwoPairs (v1 / (10 : Int32)) (grem v1 (10 : Int32)) s6).bind fun q7 => if q7.1 = 0 then some ((-2 : Int32), q7.2) else if v2 = 0 then some ((q7.2.1 18 5), q7.2) else if v2 = (1 : Int32) then some ((q7.2.1 18 6), q7.2) else some ((q7.2.1 18 7), q7.2)
theorem c_T_payBoth (d : Nat) (hd : 7 ≤ d) (v1 : Int32) (v2 : Int32) (σ : gS) : C wI d m_T_payBoth [.ref 0, .int v1, .int v2] σ (f_T_payBoth v1 v2 σ) := by
  unfold f_T_payBoth
  refine C.of (by decide +kernel) (Nat.le_of_ble_eq_true rfl) (L := [some (.ref 0), some (.int v1), some (.int v2)]) rfl ?_
  refine S.of1 (pc2 := 1) (fun Q => g_iload_n d_T_payBoth_0 rfl) ?_
  refine S.of1 (pc2 := 3) (fun Q => g_bipush (v := (6 : Int32)) d_T_payBoth_1 (by decide)) ?_
  refine S.call_rI (pc3 := 6) rfl (c_T_areTwo (d - 1) (by omega) v1 (6 : Int32) σ) (fun Q => g_callS (M2 := m_T_areTwo) (vs := [.int v1, .int (6 : Int32)]) (st := []) ls_RX10_174 rfl (Nat.le_of_ble_eq_true rfl) (by omega) (Nat.le_of_ble_eq_true rfl) rfl d_T_payBoth_3) (fun q1 => ?_)
  refine S.br (c := q1 = 0) (t := 28) (e := 9) (fun Q kt kf => g_if_eq d_T_payBoth_6 rfl kt kf) (fun h2 => ?_) (fun h2 => ?_)
  · refine S.of1 (pc2 := 29) (fun Q => g_iconst (v := (-1 : Int32)) d_T_payBoth_28 (by decide)) ?_
    exact S.ret (fun Q hq => g_iret rfl d_T_payBoth_29 hq)
  · refine S.of1 (pc2 := 10) (fun Q => g_iload_n d_T_payBoth_9 rfl) ?_
    refine S.of1 (pc2 := 12) (fun Q => g_bipush (v := (10 : Int32)) d_T_payBoth_10 (by decide)) ?_
    refine S.of1 (pc2 := 13) (fun Q => g_idiv d_T_payBoth_12 (by decide)) ?_
    refine S.of1 (pc2 := 14) (fun Q => g_iload_n d_T_payBoth_13 rfl) ?_
    refine S.of1 (pc2 := 16) (fun Q => g_bipush (v := (10 : Int32)) d_T_payBoth_14 (by decide)) ?_
    refine S.of1 (pc2 := 17) (fun Q => g_irem d_T_payBoth_16 (by decide)) ?_
    refine S.br (c := (v1 / (10 : Int32)) = (grem v1 (10 : Int32))) (t := 28) (e := 20) (fun Q kt kf => g_icmp_eq d_T_payBoth_17 rfl kt kf) (fun h3 => ?_) (fun h3 => ?_)
    · refine S.of1 (pc2 := 29) (fun Q => g_iconst (v := (-1 : Int32)) d_T_payBoth_28 (by decide)) ?_
      exact S.ret (fun Q hq => g_iret rfl d_T_payBoth_29 hq)
    · refine S.of1 (pc2 := 21) (fun Q => g_iload_n d_T_payBoth_20 rfl) ?_
      refine S.of1 (pc2 := 22) (fun Q => g_iconst (v := (3 : Int32)) d_T_payBoth_21 (by decide)) ?_
      refine S.call_rI (pc3 := 25) rfl (c_T_within (d - 1) (by omega) v2 (3 : Int32) σ) (fun Q => g_callS (M2 := m_T_within) (vs := [.int v2, .int (3 : Int32)]) (st := []) ls_RX10_72 rfl (Nat.le_of_ble_eq_true rfl) (by omega) (Nat.le_of_ble_eq_true rfl) rfl d_T_payBoth_22) (fun q4 => ?_)
      refine S.br (c := q4 = 0) (t := 28) (e := 30) (fun Q kt kf => g_if_ne d_T_payBoth_25 rfl kf kt) (fun h5 => ?_) (fun h5 => ?_)
      · refine S.of1 (pc2 := 29) (fun Q => g_iconst (v := (-1 : Int32)) d_T_payBoth_28 (by decide)) ?_
        exact S.ret (fun Q hq => g_iret rfl d_T_payBoth_29 hq)
      · refine S.of1 (pc2 := 31) (fun Q => g_aload_n d_T_payBoth_30 rfl) ?_
        refine S.of1 (pc2 := 34) (fun Q => g_getr fl_RX10_26 gc_0_2 d_T_payBoth_31) ?_
        refine S.of1 (pc2 := 35) (fun Q => g_aload_n d_T_payBoth_34 rfl) ?_
        refine S.of1 (pc2 := 38) (fun Q => g_getr fl_RX10_10 gc_0_0 d_T_payBoth_35) ?_
        refine S.call_wV (pc3 := 41) rfl (c_Br_begin (d - 1) (by omega) σ) (fun Q => g_callV (M2 := m_Br_begin) (vs := [.ref 1]) (st := []) lv_RX10_161 gk_18 rfl rfl (Nat.le_of_ble_eq_true rfl) (by omega) (Nat.le_of_ble_eq_true rfl) rfl d_T_payBoth_38) (fun s6 => ?_)
        refine S.of1 (pc2 := 42) (fun Q => g_aload_n d_T_payBoth_41 rfl) ?_
        refine S.of1 (pc2 := 45) (fun Q => g_getr fl_RX10_26 gc_0_2 d_T_payBoth_42) ?_
        refine S.of1 (pc2 := 46) (fun Q => g_iload_n d_T_payBoth_45 rfl) ?_
        refine S.of1 (pc2 := 48) (fun Q => g_bipush (v := (10 : Int32)) d_T_payBoth_46 (by decide)) ?_
        refine S.of1 (pc2 := 49) (fun Q => g_idiv d_T_payBoth_48 (by decide)) ?_
        refine S.of1 (pc2 := 50) (fun Q => g_iload_n d_T_payBoth_49 rfl) ?_
        refine S.of1 (pc2 := 52) (fun Q => g_bipush (v := (10 : Int32)) d_T_payBoth_50 (by decide)) ?_
        refine S.of1 (pc2 := 53) (fun Q => g_irem d_T_payBoth_52 (by decide)) ?_
        refine S.call_wI (pc3 := 56) rfl (c_Br_findTwoPairs (d - 1) (by omega) (v1 / (10 : Int32)) (grem v1 (10 : Int32)) s6) (fun Q => g_callV (M2 := m_Br_findTwoPairs) (vs := [.int (v1 / (10 : Int32)), .int (grem v1 (10 : Int32))]) (st := []) lv_RX10_177 gk_18 rfl rfl (Nat.le_of_ble_eq_true rfl) (by omega) (Nat.le_of_ble_eq_true rfl) rfl d_T_payBoth_53) (fun q7 => ?_)
        refine S.br (c := q7.1 = 0) (t := 59) (e := 62) (fun Q kt kf => g_if_ne d_T_payBoth_56 rfl kf kt) (fun h8 => ?_) (fun h8 => ?_)
        · refine S.of1 (pc2 := 61) (fun Q => g_bipush (v := (-2 : Int32)) d_T_payBoth_59 (by decide)) ?_
          exact S.ret (fun Q hq => g_iret rfl d_T_payBoth_61 hq)
        · refine S.of1 (pc2 := 63) (fun Q => g_iload_n d_T_payBoth_62 rfl) ?_
          refine S.br (c := v2 = 0) (t := 66) (e := 76) (fun Q kt kf => g_if_ne d_T_payBoth_63 rfl kf kt) (fun h9 => ?_) (fun h9 => ?_)
          · refine S.of1 (pc2 := 67) (fun Q => g_aload_n d_T_payBoth_66 rfl) ?_
            refine S.of1 (pc2 := 70) (fun Q => g_getr fl_RX10_26 gc_0_2 d_T_payBoth_67) ?_
            refine S.of1 (pc2 := 73) (fun Q => g_geti fl_RX10_168 gc_18_5 d_T_payBoth_70) ?_
            refine S.of1 (pc2 := 98) (fun Q => g_goto d_T_payBoth_73 rfl) ?_
            exact S.ret (fun Q hq => g_iret rfl d_T_payBoth_98 hq)
          · refine S.of1 (pc2 := 77) (fun Q => g_iload_n d_T_payBoth_76 rfl) ?_
            refine S.of1 (pc2 := 78) (fun Q => g_iconst (v := (1 : Int32)) d_T_payBoth_77 (by decide)) ?_
            refine S.br (c := v2 = (1 : Int32)) (t := 81) (e := 91) (fun Q kt kf => g_icmp_ne d_T_payBoth_78 rfl kf kt) (fun h10 => ?_) (fun h10 => ?_)
            · refine S.of1 (pc2 := 82) (fun Q => g_aload_n d_T_payBoth_81 rfl) ?_
              refine S.of1 (pc2 := 85) (fun Q => g_getr fl_RX10_26 gc_0_2 d_T_payBoth_82) ?_
              refine S.of1 (pc2 := 88) (fun Q => g_geti fl_RX10_171 gc_18_6 d_T_payBoth_85) ?_
              refine S.of1 (pc2 := 98) (fun Q => g_goto d_T_payBoth_88 rfl) ?_
              exact S.ret (fun Q hq => g_iret rfl d_T_payBoth_98 hq)
            · refine S.of1 (pc2 := 92) (fun Q => g_aload_n d_T_payBoth_91 rfl) ?_
              refine S.of1 (pc2 := 95) (fun Q => g_getr fl_RX10_26 gc_0_2 d_T_payBoth_92) ?_
              refine S.of1 (pc2 := 98) (fun Q => g_geti fl_RX10_180 gc_18_7 d_T_payBoth_95) ?_
              exact S.ret (fun Q hq => g_iret rfl d_T_payBoth_98 hq)
def f_Cr_alone_L19 (c : Nat) (σ : gS) (k6 : Int32 → Int32 → Int32 → Option Int32) : Nat → Int32 → Int32 → Int32 → Int32 → Option Int32
  | 0, _, _, _, _ => none
  | n + 1, v1, v2, v3, v4 =>
  if (σ.1 c 2) ≤ v4 then k6 v1 v2 (v3 + (1 : Int32)) else (f_Cr_agree c v3 v4 σ).bind fun q4 => if q4 = 0 then (fun v1 v2 v3 v4 => f_Cr_alone_L19 c σ k6 n v1 v2 v3 v4) v1 v2 v3 (v4 + (1 : Int32)) else if gix v3 10 then if gix v4 10 then glt ((1 : Int32) <<< ((gmin (σ.1 (c + 1) v3.toNatClampNeg) (σ.1 (c + 1) v4.toNatClampNeg)) &&& 31)) fun x8 => glt (v2 ||| (v1 &&& x8)) fun x9 => (fun v1 v2 v3 v4 => f_Cr_alone_L19 c σ k6 n v1 v2 v3 v4) (v1 ||| x8) x9 v3 (v4 + (1 : Int32)) else none else none
theorem s_Cr_alone_L19 (d : Nat) (hd : 3 ≤ d) (c : Nat) (hc : gcls c = some 2) (σ : gS) (k6 : Int32 → Int32 → Int32 → Option Int32) (hk6 : ∀ (v1 : Int32) (v2 : Int32) (v3 : Int32), S (rI σ) m_Cr_alone d 6 [some (.ref c), some (.int v1), some (.int v2), some (.int v3), none, none] [] σ (k6 v1 v2 v3)) : ∀ (n : Nat) (v1 : Int32) (v2 : Int32) (v3 : Int32) (v4 : Int32), S (rI σ) m_Cr_alone d 19 [some (.ref c), some (.int v1), some (.int v2), some (.int v3), some (.int v4), none] [] σ (f_Cr_alone_L19 c σ k6 n v1 v2 v3 v4) := by
  intro n
  induction n with
  | zero =>
    intros
    unfold f_Cr_alone_L19
    exact S.no
  | succ n ih =>
    intro v1 v2 v3 v4
    unfold f_Cr_alone_L19
    refine S.of1 (pc2 := 21) (fun Q => g_iload d_Cr_alone_19 rfl) ?_
    refine S.of1 (pc2 := 22) (fun Q => g_aload_n d_Cr_alone_21 rfl) ?_
    refine S.of1 (pc2 := 25) (fun Q => g_geti fl_RX2_52 (gq_2_2 hc) d_Cr_alone_22) ?_
    refine S.br (c := (σ.1 c 2) ≤ v4) (t := 76) (e := 28) (fun Q kt kf => g_icmp_ge d_Cr_alone_25 rfl kt kf) (fun h3 => ?_) (fun h3 => ?_)
    · refine S.of1 (pc2 := 79) (L2 := [some (.ref c), some (.int v1), some (.int v2), some (.int (v3 + (1 : Int32))), some (.int v4), none]) (fun Q => g_iinc d_Cr_alone_76 rfl (congrArg (fun z => v3 + z) (by decide)) (Nat.le_of_ble_eq_true rfl) rfl) ?_
      refine S.of1 (pc2 := 6) (fun Q => g_goto d_Cr_alone_79 rfl) ?_
      exact S.wk (L2 := [some (.ref c), some (.int v1), some (.int v2), some (.int (v3 + (1 : Int32))), none, none]) (And.intro rfl (And.intro rfl (And.intro rfl (And.intro rfl trivial)))) (hk6 v1 v2 (v3 + (1 : Int32)))
    · refine S.of1 (pc2 := 29) (fun Q => g_aload_n d_Cr_alone_28 rfl) ?_
      refine S.of1 (pc2 := 30) (fun Q => g_iload_n d_Cr_alone_29 rfl) ?_
      refine S.of1 (pc2 := 32) (fun Q => g_iload d_Cr_alone_30 rfl) ?_
      refine S.call_rI (pc3 := 35) rfl (c_Cr_agree (d - 1) (by omega) c hc v3 v4 σ) (fun Q => g_callV (M2 := m_Cr_agree) (vs := [.int v3, .int v4]) (st := []) lv_RX2_100 hc rfl rfl (Nat.le_of_ble_eq_true rfl) (by omega) (Nat.le_of_ble_eq_true rfl) rfl d_Cr_alone_32) (fun q4 => ?_)
      refine S.br (c := q4 = 0) (t := 70) (e := 38) (fun Q kt kf => g_if_eq d_Cr_alone_35 rfl kt kf) (fun h5 => ?_) (fun h5 => ?_)
      · refine S.of1 (pc2 := 73) (L2 := [some (.ref c), some (.int v1), some (.int v2), some (.int v3), some (.int (v4 + (1 : Int32))), none]) (fun Q => g_iinc d_Cr_alone_70 rfl (congrArg (fun z => v4 + z) (by decide)) (Nat.le_of_ble_eq_true rfl) rfl) ?_
        refine S.of1 (pc2 := 19) (fun Q => g_goto d_Cr_alone_73 rfl) ?_
        exact S.wk (L2 := [some (.ref c), some (.int v1), some (.int v2), some (.int v3), some (.int (v4 + (1 : Int32))), none]) (And.intro rfl (And.intro rfl (And.intro rfl (And.intro rfl (And.intro rfl trivial))))) (ih v1 v2 v3 (v4 + (1 : Int32)))
      · refine S.of1 (pc2 := 39) (fun Q => g_iconst (v := (1 : Int32)) d_Cr_alone_38 (by decide)) ?_
        refine S.of1 (pc2 := 40) (fun Q => g_aload_n d_Cr_alone_39 rfl) ?_
        refine S.of1 (pc2 := 43) (fun Q => g_getr fl_RX2_9 (gq_2_0 hc) d_Cr_alone_40) ?_
        refine S.of1 (pc2 := 44) (fun Q => g_iload_n d_Cr_alone_43 rfl) ?_
        refine S.chk (fun h6 => ?_)
        refine S.of1 (pc2 := 45) (fun Q => g_iald (gp_2_0 hc) (gix_in h6) d_Cr_alone_44) ?_
        refine S.of1 (pc2 := 46) (fun Q => g_aload_n d_Cr_alone_45 rfl) ?_
        refine S.of1 (pc2 := 49) (fun Q => g_getr fl_RX2_9 (gq_2_0 hc) d_Cr_alone_46) ?_
        refine S.of1 (pc2 := 51) (fun Q => g_iload d_Cr_alone_49 rfl) ?_
        refine S.chk (fun h7 => ?_)
        refine S.of1 (pc2 := 52) (fun Q => g_iald (gp_2_0 hc) (gix_in h7) d_Cr_alone_51) ?_
        refine S.of1 (pc2 := 55) (fun Q => g_mmin w_721 w_600 w_91 wc_min (by omega) (Nat.le_of_ble_eq_true rfl) d_Cr_alone_52) ?_
        refine S.of1 (pc2 := 56) (fun Q => g_ishl d_Cr_alone_55) ?_
        refine S.of1 (pc2 := 58) (L2 := [some (.ref c), some (.int v1), some (.int v2), some (.int v3), some (.int v4), some (.int ((1 : Int32) <<< ((gmin (σ.1 (c + 1) v3.toNatClampNeg) (σ.1 (c + 1) v4.toNatClampNeg)) &&& 31)))]) (fun Q => g_istore d_Cr_alone_56 (Nat.le_of_ble_eq_true rfl) rfl) ?_
        refine S.glt (x := ((1 : Int32) <<< ((gmin (σ.1 (c + 1) v3.toNatClampNeg) (σ.1 (c + 1) v4.toNatClampNeg)) &&& 31))) (Lf := fun y => [some (.ref c), some (.int v1), some (.int v2), some (.int v3), some (.int v4), some (.int y)]) (fun x8 => ?_)
        refine S.of1 (pc2 := 59) (fun Q => g_iload_n d_Cr_alone_58 rfl) ?_
        refine S.of1 (pc2 := 60) (fun Q => g_iload_n d_Cr_alone_59 rfl) ?_
        refine S.of1 (pc2 := 62) (fun Q => g_iload d_Cr_alone_60 rfl) ?_
        refine S.of1 (pc2 := 63) (fun Q => g_iand d_Cr_alone_62) ?_
        refine S.of1 (pc2 := 64) (fun Q => g_ior d_Cr_alone_63) ?_
        refine S.of1 (pc2 := 65) (L2 := [some (.ref c), some (.int v1), some (.int (v2 ||| (v1 &&& x8))), some (.int v3), some (.int v4), some (.int x8)]) (fun Q => g_istore_n d_Cr_alone_64 (Nat.le_of_ble_eq_true rfl) rfl) ?_
        refine S.glt (x := (v2 ||| (v1 &&& x8))) (Lf := fun y => [some (.ref c), some (.int v1), some (.int y), some (.int v3), some (.int v4), some (.int x8)]) (fun x9 => ?_)
        refine S.of1 (pc2 := 66) (fun Q => g_iload_n d_Cr_alone_65 rfl) ?_
        refine S.of1 (pc2 := 68) (fun Q => g_iload d_Cr_alone_66 rfl) ?_
        refine S.of1 (pc2 := 69) (fun Q => g_ior d_Cr_alone_68) ?_
        refine S.of1 (pc2 := 70) (L2 := [some (.ref c), some (.int (v1 ||| x8)), some (.int x9), some (.int v3), some (.int v4), some (.int x8)]) (fun Q => g_istore_n d_Cr_alone_69 (Nat.le_of_ble_eq_true rfl) rfl) ?_
        refine S.of1 (pc2 := 73) (L2 := [some (.ref c), some (.int (v1 ||| x8)), some (.int x9), some (.int v3), some (.int (v4 + (1 : Int32))), some (.int x8)]) (fun Q => g_iinc d_Cr_alone_70 rfl (congrArg (fun z => v4 + z) (by decide)) (Nat.le_of_ble_eq_true rfl) rfl) ?_
        refine S.of1 (pc2 := 19) (fun Q => g_goto d_Cr_alone_73 rfl) ?_
        exact S.wk (L2 := [some (.ref c), some (.int (v1 ||| x8)), some (.int x9), some (.int v3), some (.int (v4 + (1 : Int32))), none]) (And.intro rfl (And.intro rfl (And.intro rfl (And.intro rfl (And.intro rfl trivial))))) (ih (v1 ||| x8) x9 v3 (v4 + (1 : Int32)))
def f_Cr_alone_L6 (c : Nat) (σ : gS) : Nat → Int32 → Int32 → Int32 → Option Int32
  | 0, _, _, _ => none
  | n + 1, v1, v2, v3 =>
  if (σ.1 c 2) ≤ v3 then some (v1 &&& (v2 ^^^ (-1 : Int32))) else glt (v3 + (1 : Int32)) fun x2 => f_Cr_alone_L19 c σ (fun v1 v2 v3 => f_Cr_alone_L6 c σ n v1 v2 v3) gfu v1 v2 v3 x2
theorem s_Cr_alone_L6 (d : Nat) (hd : 3 ≤ d) (c : Nat) (hc : gcls c = some 2) (σ : gS) : ∀ (n : Nat) (v1 : Int32) (v2 : Int32) (v3 : Int32), S (rI σ) m_Cr_alone d 6 [some (.ref c), some (.int v1), some (.int v2), some (.int v3), none, none] [] σ (f_Cr_alone_L6 c σ n v1 v2 v3) := by
  intro n
  induction n with
  | zero =>
    intros
    unfold f_Cr_alone_L6
    exact S.no
  | succ n ih =>
    intro v1 v2 v3
    unfold f_Cr_alone_L6
    refine S.of1 (pc2 := 7) (fun Q => g_iload_n d_Cr_alone_6 rfl) ?_
    refine S.of1 (pc2 := 8) (fun Q => g_aload_n d_Cr_alone_7 rfl) ?_
    refine S.of1 (pc2 := 11) (fun Q => g_geti fl_RX2_52 (gq_2_2 hc) d_Cr_alone_8) ?_
    refine S.br (c := (σ.1 c 2) ≤ v3) (t := 82) (e := 14) (fun Q kt kf => g_icmp_ge d_Cr_alone_11 rfl kt kf) (fun h1 => ?_) (fun h1 => ?_)
    · refine S.of1 (pc2 := 83) (fun Q => g_iload_n d_Cr_alone_82 rfl) ?_
      refine S.of1 (pc2 := 84) (fun Q => g_iload_n d_Cr_alone_83 rfl) ?_
      refine S.of1 (pc2 := 85) (fun Q => g_iconst (v := (-1 : Int32)) d_Cr_alone_84 (by decide)) ?_
      refine S.of1 (pc2 := 86) (fun Q => g_ixor d_Cr_alone_85) ?_
      refine S.of1 (pc2 := 87) (fun Q => g_iand d_Cr_alone_86) ?_
      exact S.ret (fun Q hq => g_iret rfl d_Cr_alone_87 hq)
    · refine S.of1 (pc2 := 15) (fun Q => g_iload_n d_Cr_alone_14 rfl) ?_
      refine S.of1 (pc2 := 16) (fun Q => g_iconst (v := (1 : Int32)) d_Cr_alone_15 (by decide)) ?_
      refine S.of1 (pc2 := 17) (fun Q => g_iadd d_Cr_alone_16) ?_
      refine S.of1 (pc2 := 19) (L2 := [some (.ref c), some (.int v1), some (.int v2), some (.int v3), some (.int (v3 + (1 : Int32))), none]) (fun Q => g_istore d_Cr_alone_17 (Nat.le_of_ble_eq_true rfl) rfl) ?_
      refine S.glt (x := (v3 + (1 : Int32))) (Lf := fun y => [some (.ref c), some (.int v1), some (.int v2), some (.int v3), some (.int y), none]) (fun x2 => ?_)
      exact S.wk (L2 := [some (.ref c), some (.int v1), some (.int v2), some (.int v3), some (.int x2), none]) (And.intro rfl (And.intro rfl (And.intro rfl (And.intro rfl (And.intro rfl trivial))))) (s_Cr_alone_L19 d hd c hc σ (fun v1 v2 v3 => f_Cr_alone_L6 c σ n v1 v2 v3) (fun v1 v2 v3 => ih v1 v2 v3) gfu v1 v2 v3 x2)
def f_Cr_alone (c : Nat) (σ : gS) : Option Int32 :=
  f_Cr_alone_L6 c σ gfu (0 : Int32) (0 : Int32) (0 : Int32)
theorem c_Cr_alone (d : Nat) (hd : 3 ≤ d) (c : Nat) (hc : gcls c = some 2) (σ : gS) : C (rI σ) d m_Cr_alone [.ref c] σ (f_Cr_alone c σ) := by
  unfold f_Cr_alone
  refine C.of (by decide +kernel) (Nat.le_of_ble_eq_true rfl) (L := [some (.ref c), none, none, none, none, none]) rfl ?_
  refine S.of1 (pc2 := 1) (fun Q => g_iconst (v := (0 : Int32)) d_Cr_alone_0 (by decide)) ?_
  refine S.of1 (pc2 := 2) (L2 := [some (.ref c), some (.int (0 : Int32)), none, none, none, none]) (fun Q => g_istore_n d_Cr_alone_1 (Nat.le_of_ble_eq_true rfl) rfl) ?_
  refine S.of1 (pc2 := 3) (fun Q => g_iconst (v := (0 : Int32)) d_Cr_alone_2 (by decide)) ?_
  refine S.of1 (pc2 := 4) (L2 := [some (.ref c), some (.int (0 : Int32)), some (.int (0 : Int32)), none, none, none]) (fun Q => g_istore_n d_Cr_alone_3 (Nat.le_of_ble_eq_true rfl) rfl) ?_
  refine S.of1 (pc2 := 5) (fun Q => g_iconst (v := (0 : Int32)) d_Cr_alone_4 (by decide)) ?_
  refine S.of1 (pc2 := 6) (L2 := [some (.ref c), some (.int (0 : Int32)), some (.int (0 : Int32)), some (.int (0 : Int32)), none, none]) (fun Q => g_istore_n d_Cr_alone_5 (Nat.le_of_ble_eq_true rfl) rfl) ?_
  exact S.wk (L2 := [some (.ref c), some (.int (0 : Int32)), some (.int (0 : Int32)), some (.int (0 : Int32)), none, none]) (And.intro rfl (And.intro rfl (And.intro rfl (And.intro rfl trivial)))) (s_Cr_alone_L6 d hd c hc σ gfu (0 : Int32) (0 : Int32) (0 : Int32))
def f_Cr_joinGroups_L2 (c : Nat) : Nat → Int32 → Int32 → Int32 → gS → Option gS
  | 0, _, _, _, _ => none
  | n + 1, v1, v2, v3, σ =>
  if (8 : Int32) ≤ v3 then some σ else if gix v3 8 then if (σ.1 (c + 5) v3.toNatClampNeg) = v2 then if gix v3 8 then gup (gpi σ (c + 5) v3.toNatClampNeg v1) fun s5 => (fun v1 v2 v3 σ => f_Cr_joinGroups_L2 c n v1 v2 v3 σ) v1 v2 (v3 + (1 : Int32)) s5 else none else (fun v1 v2 v3 σ => f_Cr_joinGroups_L2 c n v1 v2 v3 σ) v1 v2 (v3 + (1 : Int32)) σ else none
theorem s_Cr_joinGroups_L2 (d : Nat) (hd : 1 ≤ d) (c : Nat) (hc : gcls c = some 2) : ∀ (n : Nat) (v1 : Int32) (v2 : Int32) (v3 : Int32) (σ : gS), S wV m_Cr_joinGroups d 2 [some (.ref c), some (.int v1), some (.int v2), some (.int v3)] [] σ (f_Cr_joinGroups_L2 c n v1 v2 v3 σ) := by
  intro n
  induction n with
  | zero =>
    intros
    unfold f_Cr_joinGroups_L2
    exact S.no
  | succ n ih =>
    intro v1 v2 v3 σ
    unfold f_Cr_joinGroups_L2
    refine S.of1 (pc2 := 3) (fun Q => g_iload_n d_Cr_joinGroups_2 rfl) ?_
    refine S.of1 (pc2 := 5) (fun Q => g_bipush (v := (8 : Int32)) d_Cr_joinGroups_3 (by decide)) ?_
    refine S.br (c := (8 : Int32) ≤ v3) (t := 31) (e := 8) (fun Q kt kf => g_icmp_ge d_Cr_joinGroups_5 rfl kt kf) (fun h1 => ?_) (fun h1 => ?_)
    · exact S.ret (fun Q hq => g_vret rfl d_Cr_joinGroups_31 hq)
    · refine S.of1 (pc2 := 9) (fun Q => g_aload_n d_Cr_joinGroups_8 rfl) ?_
      refine S.of1 (pc2 := 12) (fun Q => g_getr fl_RX2_24 (gq_2_6 hc) d_Cr_joinGroups_9) ?_
      refine S.of1 (pc2 := 13) (fun Q => g_iload_n d_Cr_joinGroups_12 rfl) ?_
      refine S.chk (fun h2 => ?_)
      refine S.of1 (pc2 := 14) (fun Q => g_iald (gp_2_6 hc) (gix_in h2) d_Cr_joinGroups_13) ?_
      refine S.of1 (pc2 := 15) (fun Q => g_iload_n d_Cr_joinGroups_14 rfl) ?_
      refine S.br (c := (σ.1 (c + 5) v3.toNatClampNeg) = v2) (t := 18) (e := 25) (fun Q kt kf => g_icmp_ne d_Cr_joinGroups_15 rfl kf kt) (fun h3 => ?_) (fun h3 => ?_)
      · refine S.of1 (pc2 := 19) (fun Q => g_aload_n d_Cr_joinGroups_18 rfl) ?_
        refine S.of1 (pc2 := 22) (fun Q => g_getr fl_RX2_24 (gq_2_6 hc) d_Cr_joinGroups_19) ?_
        refine S.of1 (pc2 := 23) (fun Q => g_iload_n d_Cr_joinGroups_22 rfl) ?_
        refine S.of1 (pc2 := 24) (fun Q => g_iload_n d_Cr_joinGroups_23 rfl) ?_
        refine S.chk (fun h4 => ?_)
        refine S.of1 (pc2 := 25) (fun Q => g_iast (gp_2_6 hc) (gix_in h4) d_Cr_joinGroups_24) ?_
        refine S.gup (fun s5 => ?_)
        refine S.of1 (pc2 := 28) (L2 := [some (.ref c), some (.int v1), some (.int v2), some (.int (v3 + (1 : Int32)))]) (fun Q => g_iinc d_Cr_joinGroups_25 rfl (congrArg (fun z => v3 + z) (by decide)) (Nat.le_of_ble_eq_true rfl) rfl) ?_
        refine S.of1 (pc2 := 2) (fun Q => g_goto d_Cr_joinGroups_28 rfl) ?_
        exact S.wk (L2 := [some (.ref c), some (.int v1), some (.int v2), some (.int (v3 + (1 : Int32)))]) (And.intro rfl (And.intro rfl (And.intro rfl (And.intro rfl trivial)))) (ih v1 v2 (v3 + (1 : Int32)) s5)
      · refine S.of1 (pc2 := 28) (L2 := [some (.ref c), some (.int v1), some (.int v2), some (.int (v3 + (1 : Int32)))]) (fun Q => g_iinc d_Cr_joinGroups_25 rfl (congrArg (fun z => v3 + z) (by decide)) (Nat.le_of_ble_eq_true rfl) rfl) ?_
        refine S.of1 (pc2 := 2) (fun Q => g_goto d_Cr_joinGroups_28 rfl) ?_
        exact S.wk (L2 := [some (.ref c), some (.int v1), some (.int v2), some (.int (v3 + (1 : Int32)))]) (And.intro rfl (And.intro rfl (And.intro rfl (And.intro rfl trivial)))) (ih v1 v2 (v3 + (1 : Int32)) σ)
def f_Cr_joinGroups (c : Nat) (v1 : Int32) (v2 : Int32) (σ : gS) : Option gS :=
  f_Cr_joinGroups_L2 c gfu v1 v2 (0 : Int32) σ
theorem c_Cr_joinGroups (d : Nat) (hd : 1 ≤ d) (c : Nat) (hc : gcls c = some 2) (v1 : Int32) (v2 : Int32) (σ : gS) : C wV d m_Cr_joinGroups [.ref c, .int v1, .int v2] σ (f_Cr_joinGroups c v1 v2 σ) := by
  unfold f_Cr_joinGroups
  refine C.of (by decide +kernel) (Nat.le_of_ble_eq_true rfl) (L := [some (.ref c), some (.int v1), some (.int v2), none]) rfl ?_
  refine S.of1 (pc2 := 1) (fun Q => g_iconst (v := (0 : Int32)) d_Cr_joinGroups_0 (by decide)) ?_
  refine S.of1 (pc2 := 2) (L2 := [some (.ref c), some (.int v1), some (.int v2), some (.int (0 : Int32))]) (fun Q => g_istore_n d_Cr_joinGroups_1 (Nat.le_of_ble_eq_true rfl) rfl) ?_
  exact S.wk (L2 := [some (.ref c), some (.int v1), some (.int v2), some (.int (0 : Int32))]) (And.intro rfl (And.intro rfl (And.intro rfl (And.intro rfl trivial)))) (s_Cr_joinGroups_L2 d hd c hc gfu v1 v2 (0 : Int32) σ)
def f_Cr_marriagesToDrought_L37 (c : Nat) (k25 : Int32 → Int32 → gS → Option (Int32 × gS)) : Nat → Int32 → Int32 → Int32 → gS → Option (Int32 × gS)
  | 0, _, _, _, _ => none
  | n + 1, v1, v2, v3, σ =>
  if (σ.1 c 2) ≤ v3 then k25 v1 (v2 + (1 : Int32)) σ else (f_Cr_agree c v2 v3 σ).bind fun q5 => if q5 = 0 then (fun v1 v2 v3 σ => f_Cr_marriagesToDrought_L37 c k25 n v1 v2 v3 σ) v1 v2 (v3 + (1 : Int32)) σ else if gix v2 10 then if gix (σ.1 (c + 2) v2.toNatClampNeg) 8 then if gix v3 10 then if gix (σ.1 (c + 2) v3.toNatClampNeg) 8 then if (σ.1 (c + 5) (σ.1 (c + 2) v2.toNatClampNeg).toNatClampNeg) = (σ.1 (c + 5) (σ.1 (c + 2) v3.toNatClampNeg).toNatClampNeg) then (fun v1 v2 v3 σ => f_Cr_marriagesToDrought_L37 c k25 n v1 v2 v3 σ) v1 v2 (v3 + (1 : Int32)) σ else if gix v2 10 then if gix (σ.1 (c + 2) v2.toNatClampNeg) 8 then if gix v3 10 then if gix (σ.1 (c + 2) v3.toNatClampNeg) 8 then (f_Cr_joinGroups c (σ.1 (c + 5) (σ.1 (c + 2) v2.toNatClampNeg).toNatClampNeg) (σ.1 (c + 5) (σ.1 (c + 2) v3.toNatClampNeg).toNatClampNeg) σ).bind fun s16 => (fun v1 v2 v3 σ => f_Cr_marriagesToDrought_L37 c k25 n v1 v2 v3 σ) (v1 + (1 : Int32)) v2 (v3 + (1 : Int32)) s16 else none else none else none else none else none else none else none else none
theorem s_Cr_marriagesToDrought_L37 (d : Nat) (hd : 3 ≤ d) (c : Nat) (hc : gcls c = some 2) (k25 : Int32 → Int32 → gS → Option (Int32 × gS)) (hk25 : ∀ (v1 : Int32) (v2 : Int32) (τ : gS), S wI m_Cr_marriagesToDrought d 25 [some (.ref c), some (.int v1), some (.int v2), none] [] τ (k25 v1 v2 τ)) : ∀ (n : Nat) (v1 : Int32) (v2 : Int32) (v3 : Int32) (σ : gS), S wI m_Cr_marriagesToDrought d 37 [some (.ref c), some (.int v1), some (.int v2), some (.int v3)] [] σ (f_Cr_marriagesToDrought_L37 c k25 n v1 v2 v3 σ) := by
  intro n
  induction n with
  | zero =>
    intros
    unfold f_Cr_marriagesToDrought_L37
    exact S.no
  | succ n ih =>
    intro v1 v2 v3 σ
    unfold f_Cr_marriagesToDrought_L37
    refine S.of1 (pc2 := 38) (fun Q => g_iload_n d_Cr_marriagesToDrought_37 rfl) ?_
    refine S.of1 (pc2 := 39) (fun Q => g_aload_n d_Cr_marriagesToDrought_38 rfl) ?_
    refine S.of1 (pc2 := 42) (fun Q => g_geti fl_RX2_52 (gq_2_2 hc) d_Cr_marriagesToDrought_39) ?_
    refine S.br (c := (σ.1 c 2) ≤ v3) (t := 114) (e := 45) (fun Q kt kf => g_icmp_ge d_Cr_marriagesToDrought_42 rfl kt kf) (fun h4 => ?_) (fun h4 => ?_)
    · refine S.of1 (pc2 := 117) (L2 := [some (.ref c), some (.int v1), some (.int (v2 + (1 : Int32))), some (.int v3)]) (fun Q => g_iinc d_Cr_marriagesToDrought_114 rfl (congrArg (fun z => v2 + z) (by decide)) (Nat.le_of_ble_eq_true rfl) rfl) ?_
      refine S.of1 (pc2 := 25) (fun Q => g_goto d_Cr_marriagesToDrought_117 rfl) ?_
      exact S.wk (L2 := [some (.ref c), some (.int v1), some (.int (v2 + (1 : Int32))), none]) (And.intro rfl (And.intro rfl (And.intro rfl trivial))) (hk25 v1 (v2 + (1 : Int32)) σ)
    · refine S.of1 (pc2 := 46) (fun Q => g_aload_n d_Cr_marriagesToDrought_45 rfl) ?_
      refine S.of1 (pc2 := 47) (fun Q => g_iload_n d_Cr_marriagesToDrought_46 rfl) ?_
      refine S.of1 (pc2 := 48) (fun Q => g_iload_n d_Cr_marriagesToDrought_47 rfl) ?_
      refine S.call_rI (pc3 := 51) rfl (c_Cr_agree (d - 1) (by omega) c hc v2 v3 σ) (fun Q => g_callV (M2 := m_Cr_agree) (vs := [.int v2, .int v3]) (st := []) lv_RX2_100 hc rfl rfl (Nat.le_of_ble_eq_true rfl) (by omega) (Nat.le_of_ble_eq_true rfl) rfl d_Cr_marriagesToDrought_48) (fun q5 => ?_)
      refine S.br (c := q5 = 0) (t := 108) (e := 54) (fun Q kt kf => g_if_eq d_Cr_marriagesToDrought_51 rfl kt kf) (fun h6 => ?_) (fun h6 => ?_)
      · refine S.of1 (pc2 := 111) (L2 := [some (.ref c), some (.int v1), some (.int v2), some (.int (v3 + (1 : Int32)))]) (fun Q => g_iinc d_Cr_marriagesToDrought_108 rfl (congrArg (fun z => v3 + z) (by decide)) (Nat.le_of_ble_eq_true rfl) rfl) ?_
        refine S.of1 (pc2 := 37) (fun Q => g_goto d_Cr_marriagesToDrought_111 rfl) ?_
        exact S.wk (L2 := [some (.ref c), some (.int v1), some (.int v2), some (.int (v3 + (1 : Int32)))]) (And.intro rfl (And.intro rfl (And.intro rfl (And.intro rfl trivial)))) (ih v1 v2 (v3 + (1 : Int32)) σ)
      · refine S.of1 (pc2 := 55) (fun Q => g_aload_n d_Cr_marriagesToDrought_54 rfl) ?_
        refine S.of1 (pc2 := 58) (fun Q => g_getr fl_RX2_24 (gq_2_6 hc) d_Cr_marriagesToDrought_55) ?_
        refine S.of1 (pc2 := 59) (fun Q => g_aload_n d_Cr_marriagesToDrought_58 rfl) ?_
        refine S.of1 (pc2 := 62) (fun Q => g_getr fl_RX2_15 (gq_2_1 hc) d_Cr_marriagesToDrought_59) ?_
        refine S.of1 (pc2 := 63) (fun Q => g_iload_n d_Cr_marriagesToDrought_62 rfl) ?_
        refine S.chk (fun h7 => ?_)
        refine S.of1 (pc2 := 64) (fun Q => g_iald (gp_2_1 hc) (gix_in h7) d_Cr_marriagesToDrought_63) ?_
        refine S.chk (fun h8 => ?_)
        refine S.of1 (pc2 := 65) (fun Q => g_iald (gp_2_6 hc) (gix_in h8) d_Cr_marriagesToDrought_64) ?_
        refine S.of1 (pc2 := 66) (fun Q => g_aload_n d_Cr_marriagesToDrought_65 rfl) ?_
        refine S.of1 (pc2 := 69) (fun Q => g_getr fl_RX2_24 (gq_2_6 hc) d_Cr_marriagesToDrought_66) ?_
        refine S.of1 (pc2 := 70) (fun Q => g_aload_n d_Cr_marriagesToDrought_69 rfl) ?_
        refine S.of1 (pc2 := 73) (fun Q => g_getr fl_RX2_15 (gq_2_1 hc) d_Cr_marriagesToDrought_70) ?_
        refine S.of1 (pc2 := 74) (fun Q => g_iload_n d_Cr_marriagesToDrought_73 rfl) ?_
        refine S.chk (fun h9 => ?_)
        refine S.of1 (pc2 := 75) (fun Q => g_iald (gp_2_1 hc) (gix_in h9) d_Cr_marriagesToDrought_74) ?_
        refine S.chk (fun h10 => ?_)
        refine S.of1 (pc2 := 76) (fun Q => g_iald (gp_2_6 hc) (gix_in h10) d_Cr_marriagesToDrought_75) ?_
        refine S.br (c := (σ.1 (c + 5) (σ.1 (c + 2) v2.toNatClampNeg).toNatClampNeg) = (σ.1 (c + 5) (σ.1 (c + 2) v3.toNatClampNeg).toNatClampNeg)) (t := 108) (e := 79) (fun Q kt kf => g_icmp_eq d_Cr_marriagesToDrought_76 rfl kt kf) (fun h11 => ?_) (fun h11 => ?_)
        · refine S.of1 (pc2 := 111) (L2 := [some (.ref c), some (.int v1), some (.int v2), some (.int (v3 + (1 : Int32)))]) (fun Q => g_iinc d_Cr_marriagesToDrought_108 rfl (congrArg (fun z => v3 + z) (by decide)) (Nat.le_of_ble_eq_true rfl) rfl) ?_
          refine S.of1 (pc2 := 37) (fun Q => g_goto d_Cr_marriagesToDrought_111 rfl) ?_
          exact S.wk (L2 := [some (.ref c), some (.int v1), some (.int v2), some (.int (v3 + (1 : Int32)))]) (And.intro rfl (And.intro rfl (And.intro rfl (And.intro rfl trivial)))) (ih v1 v2 (v3 + (1 : Int32)) σ)
        · refine S.of1 (pc2 := 80) (fun Q => g_aload_n d_Cr_marriagesToDrought_79 rfl) ?_
          refine S.of1 (pc2 := 81) (fun Q => g_aload_n d_Cr_marriagesToDrought_80 rfl) ?_
          refine S.of1 (pc2 := 84) (fun Q => g_getr fl_RX2_24 (gq_2_6 hc) d_Cr_marriagesToDrought_81) ?_
          refine S.of1 (pc2 := 85) (fun Q => g_aload_n d_Cr_marriagesToDrought_84 rfl) ?_
          refine S.of1 (pc2 := 88) (fun Q => g_getr fl_RX2_15 (gq_2_1 hc) d_Cr_marriagesToDrought_85) ?_
          refine S.of1 (pc2 := 89) (fun Q => g_iload_n d_Cr_marriagesToDrought_88 rfl) ?_
          refine S.chk (fun h12 => ?_)
          refine S.of1 (pc2 := 90) (fun Q => g_iald (gp_2_1 hc) (gix_in h12) d_Cr_marriagesToDrought_89) ?_
          refine S.chk (fun h13 => ?_)
          refine S.of1 (pc2 := 91) (fun Q => g_iald (gp_2_6 hc) (gix_in h13) d_Cr_marriagesToDrought_90) ?_
          refine S.of1 (pc2 := 92) (fun Q => g_aload_n d_Cr_marriagesToDrought_91 rfl) ?_
          refine S.of1 (pc2 := 95) (fun Q => g_getr fl_RX2_24 (gq_2_6 hc) d_Cr_marriagesToDrought_92) ?_
          refine S.of1 (pc2 := 96) (fun Q => g_aload_n d_Cr_marriagesToDrought_95 rfl) ?_
          refine S.of1 (pc2 := 99) (fun Q => g_getr fl_RX2_15 (gq_2_1 hc) d_Cr_marriagesToDrought_96) ?_
          refine S.of1 (pc2 := 100) (fun Q => g_iload_n d_Cr_marriagesToDrought_99 rfl) ?_
          refine S.chk (fun h14 => ?_)
          refine S.of1 (pc2 := 101) (fun Q => g_iald (gp_2_1 hc) (gix_in h14) d_Cr_marriagesToDrought_100) ?_
          refine S.chk (fun h15 => ?_)
          refine S.of1 (pc2 := 102) (fun Q => g_iald (gp_2_6 hc) (gix_in h15) d_Cr_marriagesToDrought_101) ?_
          refine S.call_wV (pc3 := 105) rfl (c_Cr_joinGroups (d - 1) (by omega) c hc (σ.1 (c + 5) (σ.1 (c + 2) v2.toNatClampNeg).toNatClampNeg) (σ.1 (c + 5) (σ.1 (c + 2) v3.toNatClampNeg).toNatClampNeg) σ) (fun Q => g_callV (M2 := m_Cr_joinGroups) (vs := [.int (σ.1 (c + 5) (σ.1 (c + 2) v2.toNatClampNeg).toNatClampNeg), .int (σ.1 (c + 5) (σ.1 (c + 2) v3.toNatClampNeg).toNatClampNeg)]) (st := []) lv_RX2_124 hc rfl rfl (Nat.le_of_ble_eq_true rfl) (by omega) (Nat.le_of_ble_eq_true rfl) rfl d_Cr_marriagesToDrought_102) (fun s16 => ?_)
          refine S.of1 (pc2 := 108) (L2 := [some (.ref c), some (.int (v1 + (1 : Int32))), some (.int v2), some (.int v3)]) (fun Q => g_iinc d_Cr_marriagesToDrought_105 rfl (congrArg (fun z => v1 + z) (by decide)) (Nat.le_of_ble_eq_true rfl) rfl) ?_
          refine S.of1 (pc2 := 111) (L2 := [some (.ref c), some (.int (v1 + (1 : Int32))), some (.int v2), some (.int (v3 + (1 : Int32)))]) (fun Q => g_iinc d_Cr_marriagesToDrought_108 rfl (congrArg (fun z => v3 + z) (by decide)) (Nat.le_of_ble_eq_true rfl) rfl) ?_
          refine S.of1 (pc2 := 37) (fun Q => g_goto d_Cr_marriagesToDrought_111 rfl) ?_
          exact S.wk (L2 := [some (.ref c), some (.int (v1 + (1 : Int32))), some (.int v2), some (.int (v3 + (1 : Int32)))]) (And.intro rfl (And.intro rfl (And.intro rfl (And.intro rfl trivial)))) (ih (v1 + (1 : Int32)) v2 (v3 + (1 : Int32)) s16)
def f_Cr_marriagesToDrought_L25 (c : Nat) : Nat → Int32 → Int32 → gS → Option (Int32 × gS)
  | 0, _, _, _ => none
  | n + 1, v1, v2, σ =>
  if (σ.1 c 2) ≤ v2 then some (v1, σ) else glt (v2 + (1 : Int32)) fun x3 => f_Cr_marriagesToDrought_L37 c (fun v1 v2 σ => f_Cr_marriagesToDrought_L25 c n v1 v2 σ) gfu v1 v2 x3 σ
theorem s_Cr_marriagesToDrought_L25 (d : Nat) (hd : 3 ≤ d) (c : Nat) (hc : gcls c = some 2) : ∀ (n : Nat) (v1 : Int32) (v2 : Int32) (σ : gS), S wI m_Cr_marriagesToDrought d 25 [some (.ref c), some (.int v1), some (.int v2), none] [] σ (f_Cr_marriagesToDrought_L25 c n v1 v2 σ) := by
  intro n
  induction n with
  | zero =>
    intros
    unfold f_Cr_marriagesToDrought_L25
    exact S.no
  | succ n ih =>
    intro v1 v2 σ
    unfold f_Cr_marriagesToDrought_L25
    refine S.of1 (pc2 := 26) (fun Q => g_iload_n d_Cr_marriagesToDrought_25 rfl) ?_
    refine S.of1 (pc2 := 27) (fun Q => g_aload_n d_Cr_marriagesToDrought_26 rfl) ?_
    refine S.of1 (pc2 := 30) (fun Q => g_geti fl_RX2_52 (gq_2_2 hc) d_Cr_marriagesToDrought_27) ?_
    refine S.br (c := (σ.1 c 2) ≤ v2) (t := 120) (e := 33) (fun Q kt kf => g_icmp_ge d_Cr_marriagesToDrought_30 rfl kt kf) (fun h2 => ?_) (fun h2 => ?_)
    · refine S.of1 (pc2 := 121) (fun Q => g_iload_n d_Cr_marriagesToDrought_120 rfl) ?_
      exact S.ret (fun Q hq => g_iret rfl d_Cr_marriagesToDrought_121 hq)
    · refine S.of1 (pc2 := 34) (fun Q => g_iload_n d_Cr_marriagesToDrought_33 rfl) ?_
      refine S.of1 (pc2 := 35) (fun Q => g_iconst (v := (1 : Int32)) d_Cr_marriagesToDrought_34 (by decide)) ?_
      refine S.of1 (pc2 := 36) (fun Q => g_iadd d_Cr_marriagesToDrought_35) ?_
      refine S.of1 (pc2 := 37) (L2 := [some (.ref c), some (.int v1), some (.int v2), some (.int (v2 + (1 : Int32)))]) (fun Q => g_istore_n d_Cr_marriagesToDrought_36 (Nat.le_of_ble_eq_true rfl) rfl) ?_
      refine S.glt (x := (v2 + (1 : Int32))) (Lf := fun y => [some (.ref c), some (.int v1), some (.int v2), some (.int y)]) (fun x3 => ?_)
      exact S.wk (L2 := [some (.ref c), some (.int v1), some (.int v2), some (.int x3)]) (And.intro rfl (And.intro rfl (And.intro rfl (And.intro rfl trivial)))) (s_Cr_marriagesToDrought_L37 d hd c hc (fun v1 v2 σ => f_Cr_marriagesToDrought_L25 c n v1 v2 σ) (fun v1 v2 τ => ih v1 v2 τ) gfu v1 v2 x3 σ)
def f_Cr_marriagesToDrought_L2 (c : Nat) : Nat → Int32 → gS → Option (Int32 × gS)
  | 0, _, _ => none
  | n + 1, v1, σ =>
  if (8 : Int32) ≤ v1 then f_Cr_marriagesToDrought_L25 c gfu (0 : Int32) (0 : Int32) σ else if gix v1 8 then gup (gpi σ (c + 5) v1.toNatClampNeg v1) fun s18 => (fun v1 σ => f_Cr_marriagesToDrought_L2 c n v1 σ) (v1 + (1 : Int32)) s18 else none
theorem s_Cr_marriagesToDrought_L2 (d : Nat) (hd : 3 ≤ d) (c : Nat) (hc : gcls c = some 2) : ∀ (n : Nat) (v1 : Int32) (σ : gS), S wI m_Cr_marriagesToDrought d 2 [some (.ref c), some (.int v1), none, none] [] σ (f_Cr_marriagesToDrought_L2 c n v1 σ) := by
  intro n
  induction n with
  | zero =>
    intros
    unfold f_Cr_marriagesToDrought_L2
    exact S.no
  | succ n ih =>
    intro v1 σ
    unfold f_Cr_marriagesToDrought_L2
    refine S.of1 (pc2 := 3) (fun Q => g_iload_n d_Cr_marriagesToDrought_2 rfl) ?_
    refine S.of1 (pc2 := 5) (fun Q => g_bipush (v := (8 : Int32)) d_Cr_marriagesToDrought_3 (by decide)) ?_
    refine S.br (c := (8 : Int32) ≤ v1) (t := 21) (e := 8) (fun Q kt kf => g_icmp_ge d_Cr_marriagesToDrought_5 rfl kt kf) (fun h1 => ?_) (fun h1 => ?_)
    · refine S.of1 (pc2 := 22) (fun Q => g_iconst (v := (0 : Int32)) d_Cr_marriagesToDrought_21 (by decide)) ?_
      refine S.of1 (pc2 := 23) (L2 := [some (.ref c), some (.int (0 : Int32)), none, none]) (fun Q => g_istore_n d_Cr_marriagesToDrought_22 (Nat.le_of_ble_eq_true rfl) rfl) ?_
      refine S.of1 (pc2 := 24) (fun Q => g_iconst (v := (0 : Int32)) d_Cr_marriagesToDrought_23 (by decide)) ?_
      refine S.of1 (pc2 := 25) (L2 := [some (.ref c), some (.int (0 : Int32)), some (.int (0 : Int32)), none]) (fun Q => g_istore_n d_Cr_marriagesToDrought_24 (Nat.le_of_ble_eq_true rfl) rfl) ?_
      exact S.wk (L2 := [some (.ref c), some (.int (0 : Int32)), some (.int (0 : Int32)), none]) (And.intro rfl (And.intro rfl (And.intro rfl trivial))) (s_Cr_marriagesToDrought_L25 d hd c hc gfu (0 : Int32) (0 : Int32) σ)
    · refine S.of1 (pc2 := 9) (fun Q => g_aload_n d_Cr_marriagesToDrought_8 rfl) ?_
      refine S.of1 (pc2 := 12) (fun Q => g_getr fl_RX2_24 (gq_2_6 hc) d_Cr_marriagesToDrought_9) ?_
      refine S.of1 (pc2 := 13) (fun Q => g_iload_n d_Cr_marriagesToDrought_12 rfl) ?_
      refine S.of1 (pc2 := 14) (fun Q => g_iload_n d_Cr_marriagesToDrought_13 rfl) ?_
      refine S.chk (fun h17 => ?_)
      refine S.of1 (pc2 := 15) (fun Q => g_iast (gp_2_6 hc) (gix_in h17) d_Cr_marriagesToDrought_14) ?_
      refine S.gup (fun s18 => ?_)
      refine S.of1 (pc2 := 18) (L2 := [some (.ref c), some (.int (v1 + (1 : Int32))), none, none]) (fun Q => g_iinc d_Cr_marriagesToDrought_15 rfl (congrArg (fun z => v1 + z) (by decide)) (Nat.le_of_ble_eq_true rfl) rfl) ?_
      refine S.of1 (pc2 := 2) (fun Q => g_goto d_Cr_marriagesToDrought_18 rfl) ?_
      exact S.wk (L2 := [some (.ref c), some (.int (v1 + (1 : Int32))), none, none]) (And.intro rfl (And.intro rfl trivial)) (ih (v1 + (1 : Int32)) s18)
def f_Cr_marriagesToDrought (c : Nat) (σ : gS) : Option (Int32 × gS) :=
  f_Cr_marriagesToDrought_L2 c gfu (0 : Int32) σ
theorem c_Cr_marriagesToDrought (d : Nat) (hd : 3 ≤ d) (c : Nat) (hc : gcls c = some 2) (σ : gS) : C wI d m_Cr_marriagesToDrought [.ref c] σ (f_Cr_marriagesToDrought c σ) := by
  unfold f_Cr_marriagesToDrought
  refine C.of (by decide +kernel) (Nat.le_of_ble_eq_true rfl) (L := [some (.ref c), none, none, none]) rfl ?_
  refine S.of1 (pc2 := 1) (fun Q => g_iconst (v := (0 : Int32)) d_Cr_marriagesToDrought_0 (by decide)) ?_
  refine S.of1 (pc2 := 2) (L2 := [some (.ref c), some (.int (0 : Int32)), none, none]) (fun Q => g_istore_n d_Cr_marriagesToDrought_1 (Nat.le_of_ble_eq_true rfl) rfl) ?_
  exact S.wk (L2 := [some (.ref c), some (.int (0 : Int32)), none, none]) (And.intro rfl (And.intro rfl trivial)) (s_Cr_marriagesToDrought_L2 d hd c hc gfu (0 : Int32) σ)
def f_T_lowestOf_L2 : Nat → Int32 → Int32 → Option Int32
  | 0, _, _ => none
  | n + 1, v0, v1 =>
  if (32 : Int32) ≤ v1 then some v1 else (f_T_has v0 v1).bind fun q2 => if q2 = 0 then (fun v0 v1 => f_T_lowestOf_L2 n v0 v1) v0 (v1 + (1 : Int32)) else some v1
theorem s_T_lowestOf_L2 (d : Nat) (hd : 2 ≤ d) (σ : gS) : ∀ (n : Nat) (v0 : Int32) (v1 : Int32), S (rI σ) m_T_lowestOf d 2 [some (.int v0), some (.int v1)] [] σ (f_T_lowestOf_L2 n v0 v1) := by
  intro n
  induction n with
  | zero =>
    intros
    unfold f_T_lowestOf_L2
    exact S.no
  | succ n ih =>
    intro v0 v1
    unfold f_T_lowestOf_L2
    refine S.of1 (pc2 := 3) (fun Q => g_iload_n d_T_lowestOf_2 rfl) ?_
    refine S.of1 (pc2 := 5) (fun Q => g_bipush (v := (32 : Int32)) d_T_lowestOf_3 (by decide)) ?_
    refine S.br (c := (32 : Int32) ≤ v1) (t := 22) (e := 8) (fun Q kt kf => g_icmp_ge d_T_lowestOf_5 rfl kt kf) (fun h1 => ?_) (fun h1 => ?_)
    · refine S.of1 (pc2 := 23) (fun Q => g_iload_n d_T_lowestOf_22 rfl) ?_
      exact S.ret (fun Q hq => g_iret rfl d_T_lowestOf_23 hq)
    · refine S.of1 (pc2 := 9) (fun Q => g_iload_n d_T_lowestOf_8 rfl) ?_
      refine S.of1 (pc2 := 10) (fun Q => g_iload_n d_T_lowestOf_9 rfl) ?_
      refine S.call_rI (pc3 := 13) rfl (c_T_has (d - 1) (by omega) v0 v1 σ) (fun Q => g_callS (M2 := m_T_has) (vs := [.int v0, .int v1]) (st := []) ls_RX10_160 rfl (Nat.le_of_ble_eq_true rfl) (by omega) (Nat.le_of_ble_eq_true rfl) rfl d_T_lowestOf_10) (fun q2 => ?_)
      refine S.br (c := q2 = 0) (t := 16) (e := 22) (fun Q kt kf => g_if_ne d_T_lowestOf_13 rfl kf kt) (fun h3 => ?_) (fun h3 => ?_)
      · refine S.of1 (pc2 := 19) (L2 := [some (.int v0), some (.int (v1 + (1 : Int32)))]) (fun Q => g_iinc d_T_lowestOf_16 rfl (congrArg (fun z => v1 + z) (by decide)) (Nat.le_of_ble_eq_true rfl) rfl) ?_
        refine S.of1 (pc2 := 2) (fun Q => g_goto d_T_lowestOf_19 rfl) ?_
        exact S.wk (L2 := [some (.int v0), some (.int (v1 + (1 : Int32)))]) (And.intro rfl (And.intro rfl trivial)) (ih v0 (v1 + (1 : Int32)))
      · refine S.of1 (pc2 := 23) (fun Q => g_iload_n d_T_lowestOf_22 rfl) ?_
        exact S.ret (fun Q hq => g_iret rfl d_T_lowestOf_23 hq)
def f_T_lowestOf (v0 : Int32) : Option Int32 :=
  f_T_lowestOf_L2 gfu v0 (0 : Int32)
theorem c_T_lowestOf (d : Nat) (hd : 2 ≤ d) (v0 : Int32) (σ : gS) : C (rI σ) d m_T_lowestOf [.int v0] σ (f_T_lowestOf v0) := by
  unfold f_T_lowestOf
  refine C.of (by decide +kernel) (Nat.le_of_ble_eq_true rfl) (L := [some (.int v0), none]) rfl ?_
  refine S.of1 (pc2 := 1) (fun Q => g_iconst (v := (0 : Int32)) d_T_lowestOf_0 (by decide)) ?_
  refine S.of1 (pc2 := 2) (L2 := [some (.int v0), some (.int (0 : Int32))]) (fun Q => g_istore_n d_T_lowestOf_1 (Nat.le_of_ble_eq_true rfl) rfl) ?_
  exact S.wk (L2 := [some (.int v0), some (.int (0 : Int32))]) (And.intro rfl (And.intro rfl trivial)) (s_T_lowestOf_L2 d hd σ gfu v0 (0 : Int32))
def f_Cr_boundAmong_L10 (c : Nat) (σ : gS) : Nat → Int32 → Int32 → Int32 → Int32 → Option Int32
  | 0, _, _, _, _ => none
  | n + 1, v1, v2, v3, v4 =>
  if (8 : Int32) ≤ v4 then some (gmin (v2 / (2 : Int32)) (v2 - v3)) else if gix v4 8 then (f_JI_bitCount (v1 &&& (σ.1 (c + 5) v4.toNatClampNeg))).bind fun q4 => (fun v1 v2 v3 v4 => f_Cr_boundAmong_L10 c σ n v1 v2 v3 v4) v1 v2 (gmax v3 q4) (v4 + (1 : Int32)) else none
theorem s_Cr_boundAmong_L10 (d : Nat) (hd : 2 ≤ d) (c : Nat) (hc : gcls c = some 2) (σ : gS) : ∀ (n : Nat) (v1 : Int32) (v2 : Int32) (v3 : Int32) (v4 : Int32), S (rI σ) m_Cr_boundAmong d 10 [some (.ref c), some (.int v1), some (.int v2), some (.int v3), some (.int v4)] [] σ (f_Cr_boundAmong_L10 c σ n v1 v2 v3 v4) := by
  intro n
  induction n with
  | zero =>
    intros
    unfold f_Cr_boundAmong_L10
    exact S.no
  | succ n ih =>
    intro v1 v2 v3 v4
    unfold f_Cr_boundAmong_L10
    refine S.of1 (pc2 := 12) (fun Q => g_iload d_Cr_boundAmong_10 rfl) ?_
    refine S.of1 (pc2 := 14) (fun Q => g_bipush (v := (8 : Int32)) d_Cr_boundAmong_12 (by decide)) ?_
    refine S.br (c := (8 : Int32) ≤ v4) (t := 40) (e := 17) (fun Q kt kf => g_icmp_ge d_Cr_boundAmong_14 rfl kt kf) (fun h2 => ?_) (fun h2 => ?_)
    · refine S.of1 (pc2 := 41) (fun Q => g_iload_n d_Cr_boundAmong_40 rfl) ?_
      refine S.of1 (pc2 := 42) (fun Q => g_iconst (v := (2 : Int32)) d_Cr_boundAmong_41 (by decide)) ?_
      refine S.of1 (pc2 := 43) (fun Q => g_idiv d_Cr_boundAmong_42 (by decide)) ?_
      refine S.of1 (pc2 := 44) (fun Q => g_iload_n d_Cr_boundAmong_43 rfl) ?_
      refine S.of1 (pc2 := 45) (fun Q => g_iload_n d_Cr_boundAmong_44 rfl) ?_
      refine S.of1 (pc2 := 46) (fun Q => g_isub d_Cr_boundAmong_45) ?_
      refine S.of1 (pc2 := 49) (fun Q => g_mmin w_721 w_600 w_91 wc_min (by omega) (Nat.le_of_ble_eq_true rfl) d_Cr_boundAmong_46) ?_
      exact S.ret (fun Q hq => g_iret rfl d_Cr_boundAmong_49 hq)
    · refine S.of1 (pc2 := 18) (fun Q => g_iload_n d_Cr_boundAmong_17 rfl) ?_
      refine S.of1 (pc2 := 19) (fun Q => g_iload_n d_Cr_boundAmong_18 rfl) ?_
      refine S.of1 (pc2 := 20) (fun Q => g_aload_n d_Cr_boundAmong_19 rfl) ?_
      refine S.of1 (pc2 := 23) (fun Q => g_getr fl_RX2_24 (gq_2_6 hc) d_Cr_boundAmong_20) ?_
      refine S.of1 (pc2 := 25) (fun Q => g_iload d_Cr_boundAmong_23 rfl) ?_
      refine S.chk (fun h3 => ?_)
      refine S.of1 (pc2 := 26) (fun Q => g_iald (gp_2_6 hc) (gix_in h3) d_Cr_boundAmong_25) ?_
      refine S.of1 (pc2 := 27) (fun Q => g_iand d_Cr_boundAmong_26) ?_
      refine S.call_rI (pc3 := 30) rfl (c_JI_bitCount (d - 1) (by omega) (v1 &&& (σ.1 (c + 5) v4.toNatClampNeg)) σ) (fun Q => g_callS (M2 := m_JI_bitCount) (vs := [.int (v1 &&& (σ.1 (c + 5) v4.toNatClampNeg))]) (st := [.int v3]) ls_RX2_107 rfl (Nat.le_of_ble_eq_true rfl) (by omega) (Nat.le_of_ble_eq_true rfl) rfl d_Cr_boundAmong_27) (fun q4 => ?_)
      refine S.of1 (pc2 := 33) (fun Q => g_mmax w_842 w_597 w_91 wc_max (by omega) (Nat.le_of_ble_eq_true rfl) d_Cr_boundAmong_30) ?_
      refine S.of1 (pc2 := 34) (L2 := [some (.ref c), some (.int v1), some (.int v2), some (.int (gmax v3 q4)), some (.int v4)]) (fun Q => g_istore_n d_Cr_boundAmong_33 (Nat.le_of_ble_eq_true rfl) rfl) ?_
      refine S.of1 (pc2 := 37) (L2 := [some (.ref c), some (.int v1), some (.int v2), some (.int (gmax v3 q4)), some (.int (v4 + (1 : Int32)))]) (fun Q => g_iinc d_Cr_boundAmong_34 rfl (congrArg (fun z => v4 + z) (by decide)) (Nat.le_of_ble_eq_true rfl) rfl) ?_
      refine S.of1 (pc2 := 10) (fun Q => g_goto d_Cr_boundAmong_37 rfl) ?_
      exact S.wk (L2 := [some (.ref c), some (.int v1), some (.int v2), some (.int (gmax v3 q4)), some (.int (v4 + (1 : Int32)))]) (And.intro rfl (And.intro rfl (And.intro rfl (And.intro rfl (And.intro rfl trivial))))) (ih v1 v2 (gmax v3 q4) (v4 + (1 : Int32)))
def f_Cr_boundAmong (c : Nat) (v1 : Int32) (σ : gS) : Option Int32 :=
  (f_JI_bitCount v1).bind fun q1 => f_Cr_boundAmong_L10 c σ gfu v1 q1 (0 : Int32) (0 : Int32)
theorem c_Cr_boundAmong (d : Nat) (hd : 2 ≤ d) (c : Nat) (hc : gcls c = some 2) (v1 : Int32) (σ : gS) : C (rI σ) d m_Cr_boundAmong [.ref c, .int v1] σ (f_Cr_boundAmong c v1 σ) := by
  unfold f_Cr_boundAmong
  refine C.of (by decide +kernel) (Nat.le_of_ble_eq_true rfl) (L := [some (.ref c), some (.int v1), none, none, none]) rfl ?_
  refine S.of1 (pc2 := 1) (fun Q => g_iload_n d_Cr_boundAmong_0 rfl) ?_
  refine S.call_rI (pc3 := 4) rfl (c_JI_bitCount (d - 1) (by omega) v1 σ) (fun Q => g_callS (M2 := m_JI_bitCount) (vs := [.int v1]) (st := []) ls_RX2_107 rfl (Nat.le_of_ble_eq_true rfl) (by omega) (Nat.le_of_ble_eq_true rfl) rfl d_Cr_boundAmong_1) (fun q1 => ?_)
  refine S.of1 (pc2 := 5) (L2 := [some (.ref c), some (.int v1), some (.int q1), none, none]) (fun Q => g_istore_n d_Cr_boundAmong_4 (Nat.le_of_ble_eq_true rfl) rfl) ?_
  refine S.of1 (pc2 := 6) (fun Q => g_iconst (v := (0 : Int32)) d_Cr_boundAmong_5 (by decide)) ?_
  refine S.of1 (pc2 := 7) (L2 := [some (.ref c), some (.int v1), some (.int q1), some (.int (0 : Int32)), none]) (fun Q => g_istore_n d_Cr_boundAmong_6 (Nat.le_of_ble_eq_true rfl) rfl) ?_
  refine S.of1 (pc2 := 8) (fun Q => g_iconst (v := (0 : Int32)) d_Cr_boundAmong_7 (by decide)) ?_
  refine S.of1 (pc2 := 10) (L2 := [some (.ref c), some (.int v1), some (.int q1), some (.int (0 : Int32)), some (.int (0 : Int32))]) (fun Q => g_istore d_Cr_boundAmong_8 (Nat.le_of_ble_eq_true rfl) rfl) ?_
  exact S.wk (L2 := [some (.ref c), some (.int v1), some (.int q1), some (.int (0 : Int32)), some (.int (0 : Int32))]) (And.intro rfl (And.intro rfl (And.intro rfl (And.intro rfl (And.intro rfl trivial))))) (s_Cr_boundAmong_L10 d hd c hc σ gfu v1 q1 (0 : Int32) (0 : Int32))
def f_Cr_mostAmong_j100 (kmostAmong : Nat → Int32 → gS → Option Int32) (c : Nat) (σ : gS) (v2 : Int32) (v4 : Int32) (v5 : Int32) : Option Int32 :=
  if v2 ≤ v5 then some v5 else (kmostAmong c v4 σ).bind fun q9 => some (gmax v5 q9)
theorem s_Cr_mostAmong_j100 (D : Nat) (hD : 2 ≤ D) (kmostAmong : Nat → Int32 → gS → Option Int32) (hkmostAmong : ∀ (d : Nat) (_ : D ≤ d) (c : Nat) (hc : gcls c = some 2) (v1 : Int32) (σ : gS), C (rI σ) d m_Cr_mostAmong [.ref c, .int v1] σ (kmostAmong c v1 σ)) (d : Nat) (hd : D + 1 ≤ d) (c : Nat) (hc : gcls c = some 2) (σ : gS) (v2 : Int32) (v4 : Int32) (v5 : Int32) : S (rI σ) m_Cr_mostAmong d 100 [some (.ref c), none, some (.int v2), none, some (.int v4), some (.int v5), none] [] σ (f_Cr_mostAmong_j100 kmostAmong c σ v2 v4 v5) := by
  unfold f_Cr_mostAmong_j100
  refine S.of1 (pc2 := 102) (fun Q => g_iload d_Cr_mostAmong_100 rfl) ?_
  refine S.of1 (pc2 := 103) (fun Q => g_iload_n d_Cr_mostAmong_102 rfl) ?_
  refine S.br (c := v2 ≤ v5) (t := 120) (e := 106) (fun Q kt kf => g_icmp_ge d_Cr_mostAmong_103 rfl kt kf) (fun h8 => ?_) (fun h8 => ?_)
  · refine S.of1 (pc2 := 122) (fun Q => g_iload d_Cr_mostAmong_120 rfl) ?_
    exact S.ret (fun Q hq => g_iret rfl d_Cr_mostAmong_122 hq)
  · refine S.of1 (pc2 := 108) (fun Q => g_iload d_Cr_mostAmong_106 rfl) ?_
    refine S.of1 (pc2 := 109) (fun Q => g_aload_n d_Cr_mostAmong_108 rfl) ?_
    refine S.of1 (pc2 := 111) (fun Q => g_iload d_Cr_mostAmong_109 rfl) ?_
    refine S.call_rI (pc3 := 114) rfl (hkmostAmong (d - 1) (by omega) c hc v4 σ) (fun Q => g_callV (M2 := m_Cr_mostAmong) (vs := [.int v4]) (st := [.int v5]) lv_RX2_112 hc rfl rfl (Nat.le_of_ble_eq_true rfl) (by omega) (Nat.le_of_ble_eq_true rfl) rfl d_Cr_mostAmong_111) (fun q9 => ?_)
    refine S.of1 (pc2 := 117) (fun Q => g_mmax w_842 w_597 w_91 wc_max (by omega) (Nat.le_of_ble_eq_true rfl) d_Cr_mostAmong_114) ?_
    refine S.of1 (pc2 := 122) (fun Q => g_goto d_Cr_mostAmong_117 rfl) ?_
    exact S.ret (fun Q hq => g_iret rfl d_Cr_mostAmong_122 hq)
def f_Cr_mostAmong_L40 (kmostAmong : Nat → Int32 → gS → Option Int32) (c : Nat) (σ : gS) : Nat → Int32 → Int32 → Int32 → Int32 → Int32 → Option Int32
  | 0, _, _, _, _, _ => none
  | n + 1, v2, v3, v4, v5, v6 =>
  if (σ.1 c 2) ≤ v6 then f_Cr_mostAmong_j100 kmostAmong c σ v2 v4 v5 else if v2 ≤ v5 then f_Cr_mostAmong_j100 kmostAmong c σ v2 v4 v5 else if gix v3 10 then (f_T_has ((σ.1 (c + 4) v3.toNatClampNeg) &&& v4) v6).bind fun q12 => if q12 = 0 then (fun v2 v3 v4 v5 v6 => f_Cr_mostAmong_L40 kmostAmong c σ n v2 v3 v4 v5 v6) v2 v3 v4 v5 (v6 + (1 : Int32)) else (kmostAmong c (v4 &&& (((1 : Int32) <<< (v6 &&& 31)) ^^^ (-1 : Int32))) σ).bind fun q14 => glt (gmax v5 ((1 : Int32) + q14)) fun x15 => (fun v2 v3 v4 v5 v6 => f_Cr_mostAmong_L40 kmostAmong c σ n v2 v3 v4 v5 v6) v2 v3 v4 x15 (v6 + (1 : Int32)) else none
theorem s_Cr_mostAmong_L40 (D : Nat) (hD : 2 ≤ D) (kmostAmong : Nat → Int32 → gS → Option Int32) (hkmostAmong : ∀ (d : Nat) (_ : D ≤ d) (c : Nat) (hc : gcls c = some 2) (v1 : Int32) (σ : gS), C (rI σ) d m_Cr_mostAmong [.ref c, .int v1] σ (kmostAmong c v1 σ)) (d : Nat) (hd : D + 1 ≤ d) (c : Nat) (hc : gcls c = some 2) (σ : gS) : ∀ (n : Nat) (v2 : Int32) (v3 : Int32) (v4 : Int32) (v5 : Int32) (v6 : Int32), S (rI σ) m_Cr_mostAmong d 40 [some (.ref c), none, some (.int v2), some (.int v3), some (.int v4), some (.int v5), some (.int v6)] [] σ (f_Cr_mostAmong_L40 kmostAmong c σ n v2 v3 v4 v5 v6) := by
  intro n
  induction n with
  | zero =>
    intros
    unfold f_Cr_mostAmong_L40
    exact S.no
  | succ n ih =>
    intro v2 v3 v4 v5 v6
    unfold f_Cr_mostAmong_L40
    refine S.of1 (pc2 := 42) (fun Q => g_iload d_Cr_mostAmong_40 rfl) ?_
    refine S.of1 (pc2 := 43) (fun Q => g_aload_n d_Cr_mostAmong_42 rfl) ?_
    refine S.of1 (pc2 := 46) (fun Q => g_geti fl_RX2_52 (gq_2_2 hc) d_Cr_mostAmong_43) ?_
    refine S.br (c := (σ.1 c 2) ≤ v6) (t := 100) (e := 49) (fun Q kt kf => g_icmp_ge d_Cr_mostAmong_46 rfl kt kf) (fun h7 => ?_) (fun h7 => ?_)
    · exact S.wk (L2 := [some (.ref c), none, some (.int v2), none, some (.int v4), some (.int v5), none]) (And.intro rfl (And.intro rfl (And.intro rfl (And.intro rfl trivial)))) (s_Cr_mostAmong_j100 D hD kmostAmong hkmostAmong d hd c hc σ v2 v4 v5)
    · refine S.of1 (pc2 := 51) (fun Q => g_iload d_Cr_mostAmong_49 rfl) ?_
      refine S.of1 (pc2 := 52) (fun Q => g_iload_n d_Cr_mostAmong_51 rfl) ?_
      refine S.br (c := v2 ≤ v5) (t := 100) (e := 55) (fun Q kt kf => g_icmp_ge d_Cr_mostAmong_52 rfl kt kf) (fun h10 => ?_) (fun h10 => ?_)
      · exact S.wk (L2 := [some (.ref c), none, some (.int v2), none, some (.int v4), some (.int v5), none]) (And.intro rfl (And.intro rfl (And.intro rfl (And.intro rfl trivial)))) (s_Cr_mostAmong_j100 D hD kmostAmong hkmostAmong d hd c hc σ v2 v4 v5)
      · refine S.of1 (pc2 := 56) (fun Q => g_aload_n d_Cr_mostAmong_55 rfl) ?_
        refine S.of1 (pc2 := 59) (fun Q => g_getr fl_RX2_21 (gq_2_5 hc) d_Cr_mostAmong_56) ?_
        refine S.of1 (pc2 := 60) (fun Q => g_iload_n d_Cr_mostAmong_59 rfl) ?_
        refine S.chk (fun h11 => ?_)
        refine S.of1 (pc2 := 61) (fun Q => g_iald (gp_2_5 hc) (gix_in h11) d_Cr_mostAmong_60) ?_
        refine S.of1 (pc2 := 63) (fun Q => g_iload d_Cr_mostAmong_61 rfl) ?_
        refine S.of1 (pc2 := 64) (fun Q => g_iand d_Cr_mostAmong_63) ?_
        refine S.of1 (pc2 := 66) (fun Q => g_iload d_Cr_mostAmong_64 rfl) ?_
        refine S.call_rI (pc3 := 69) rfl (c_T_has (d - 1) (by omega) ((σ.1 (c + 4) v3.toNatClampNeg) &&& v4) v6 σ) (fun Q => g_callSN (M2 := m_T_has) (vs := [.int ((σ.1 (c + 4) v3.toNatClampNeg) &&& v4), .int v6]) (st := []) ln_RX2_97 rfl (Nat.le_of_ble_eq_true rfl) (by omega) (Nat.le_of_ble_eq_true rfl) rfl d_Cr_mostAmong_66) (fun q12 => ?_)
        refine S.br (c := q12 = 0) (t := 94) (e := 72) (fun Q kt kf => g_if_eq d_Cr_mostAmong_69 rfl kt kf) (fun h13 => ?_) (fun h13 => ?_)
        · refine S.of1 (pc2 := 97) (L2 := [some (.ref c), none, some (.int v2), some (.int v3), some (.int v4), some (.int v5), some (.int (v6 + (1 : Int32)))]) (fun Q => g_iinc d_Cr_mostAmong_94 rfl (congrArg (fun z => v6 + z) (by decide)) (Nat.le_of_ble_eq_true rfl) rfl) ?_
          refine S.of1 (pc2 := 40) (fun Q => g_goto d_Cr_mostAmong_97 rfl) ?_
          exact S.wk (L2 := [some (.ref c), none, some (.int v2), some (.int v3), some (.int v4), some (.int v5), some (.int (v6 + (1 : Int32)))]) (And.intro rfl (And.intro rfl (And.intro rfl (And.intro rfl (And.intro rfl (And.intro rfl trivial)))))) (ih v2 v3 v4 v5 (v6 + (1 : Int32)))
        · refine S.of1 (pc2 := 74) (fun Q => g_iload d_Cr_mostAmong_72 rfl) ?_
          refine S.of1 (pc2 := 75) (fun Q => g_iconst (v := (1 : Int32)) d_Cr_mostAmong_74 (by decide)) ?_
          refine S.of1 (pc2 := 76) (fun Q => g_aload_n d_Cr_mostAmong_75 rfl) ?_
          refine S.of1 (pc2 := 78) (fun Q => g_iload d_Cr_mostAmong_76 rfl) ?_
          refine S.of1 (pc2 := 79) (fun Q => g_iconst (v := (1 : Int32)) d_Cr_mostAmong_78 (by decide)) ?_
          refine S.of1 (pc2 := 81) (fun Q => g_iload d_Cr_mostAmong_79 rfl) ?_
          refine S.of1 (pc2 := 82) (fun Q => g_ishl d_Cr_mostAmong_81) ?_
          refine S.of1 (pc2 := 83) (fun Q => g_iconst (v := (-1 : Int32)) d_Cr_mostAmong_82 (by decide)) ?_
          refine S.of1 (pc2 := 84) (fun Q => g_ixor d_Cr_mostAmong_83) ?_
          refine S.of1 (pc2 := 85) (fun Q => g_iand d_Cr_mostAmong_84) ?_
          refine S.call_rI (pc3 := 88) rfl (hkmostAmong (d - 1) (by omega) c hc (v4 &&& (((1 : Int32) <<< (v6 &&& 31)) ^^^ (-1 : Int32))) σ) (fun Q => g_callV (M2 := m_Cr_mostAmong) (vs := [.int (v4 &&& (((1 : Int32) <<< (v6 &&& 31)) ^^^ (-1 : Int32)))]) (st := [.int (1 : Int32), .int v5]) lv_RX2_112 hc rfl rfl (Nat.le_of_ble_eq_true rfl) (by omega) (Nat.le_of_ble_eq_true rfl) rfl d_Cr_mostAmong_85) (fun q14 => ?_)
          refine S.of1 (pc2 := 89) (fun Q => g_iadd d_Cr_mostAmong_88) ?_
          refine S.of1 (pc2 := 92) (fun Q => g_mmax w_842 w_597 w_91 wc_max (by omega) (Nat.le_of_ble_eq_true rfl) d_Cr_mostAmong_89) ?_
          refine S.of1 (pc2 := 94) (L2 := [some (.ref c), none, some (.int v2), some (.int v3), some (.int v4), some (.int (gmax v5 ((1 : Int32) + q14))), some (.int v6)]) (fun Q => g_istore d_Cr_mostAmong_92 (Nat.le_of_ble_eq_true rfl) rfl) ?_
          refine S.glt (x := (gmax v5 ((1 : Int32) + q14))) (Lf := fun y => [some (.ref c), none, some (.int v2), some (.int v3), some (.int v4), some (.int y), some (.int v6)]) (fun x15 => ?_)
          refine S.of1 (pc2 := 97) (L2 := [some (.ref c), none, some (.int v2), some (.int v3), some (.int v4), some (.int x15), some (.int (v6 + (1 : Int32)))]) (fun Q => g_iinc d_Cr_mostAmong_94 rfl (congrArg (fun z => v6 + z) (by decide)) (Nat.le_of_ble_eq_true rfl) rfl) ?_
          refine S.of1 (pc2 := 40) (fun Q => g_goto d_Cr_mostAmong_97 rfl) ?_
          exact S.wk (L2 := [some (.ref c), none, some (.int v2), some (.int v3), some (.int v4), some (.int x15), some (.int (v6 + (1 : Int32)))]) (And.intro rfl (And.intro rfl (And.intro rfl (And.intro rfl (And.intro rfl (And.intro rfl trivial)))))) (ih v2 v3 v4 x15 (v6 + (1 : Int32)))
def fo_Cr_mostAmong (kmostAmong : Nat → Int32 → gS → Option Int32) (c : Nat) (v1 : Int32) (σ : gS) : Option Int32 :=
  (f_Cr_boundAmong c v1 σ).bind fun q1 => (f_T_lowestOf v1).bind fun q2 => if q1 ≤ 0 then some (0 : Int32) else if q2 < (10 : Int32) then glt (v1 &&& (((1 : Int32) <<< (q2 &&& 31)) ^^^ (-1 : Int32))) fun x5 => glt (q2 + (1 : Int32)) fun x6 => f_Cr_mostAmong_L40 kmostAmong c σ gfu q1 q2 x5 (0 : Int32) x6 else some (0 : Int32)
theorem co_Cr_mostAmong (D : Nat) (hD : 2 ≤ D) (kmostAmong : Nat → Int32 → gS → Option Int32) (hkmostAmong : ∀ (d : Nat) (_ : D ≤ d) (c : Nat) (hc : gcls c = some 2) (v1 : Int32) (σ : gS), C (rI σ) d m_Cr_mostAmong [.ref c, .int v1] σ (kmostAmong c v1 σ)) (d : Nat) (hd : D + 1 ≤ d) (c : Nat) (hc : gcls c = some 2) (v1 : Int32) (σ : gS) : C (rI σ) d m_Cr_mostAmong [.ref c, .int v1] σ (fo_Cr_mostAmong kmostAmong c v1 σ) := by
  unfold fo_Cr_mostAmong
  refine C.of (by decide +kernel) (Nat.le_of_ble_eq_true rfl) (L := [some (.ref c), some (.int v1), none, none, none, none, none]) rfl ?_
  refine S.of1 (pc2 := 1) (fun Q => g_aload_n d_Cr_mostAmong_0 rfl) ?_
  refine S.of1 (pc2 := 2) (fun Q => g_iload_n d_Cr_mostAmong_1 rfl) ?_
  refine S.call_rI (pc3 := 5) rfl (c_Cr_boundAmong (d - 1) (by omega) c hc v1 σ) (fun Q => g_callV (M2 := m_Cr_boundAmong) (vs := [.int v1]) (st := []) lv_RX2_115 hc rfl rfl (Nat.le_of_ble_eq_true rfl) (by omega) (Nat.le_of_ble_eq_true rfl) rfl d_Cr_mostAmong_2) (fun q1 => ?_)
  refine S.of1 (pc2 := 6) (L2 := [some (.ref c), some (.int v1), some (.int q1), none, none, none, none]) (fun Q => g_istore_n d_Cr_mostAmong_5 (Nat.le_of_ble_eq_true rfl) rfl) ?_
  refine S.of1 (pc2 := 7) (fun Q => g_iload_n d_Cr_mostAmong_6 rfl) ?_
  refine S.call_rI (pc3 := 10) rfl (c_T_lowestOf (d - 1) (by omega) v1 σ) (fun Q => g_callSN (M2 := m_T_lowestOf) (vs := [.int v1]) (st := []) ln_RX2_118 rfl (Nat.le_of_ble_eq_true rfl) (by omega) (Nat.le_of_ble_eq_true rfl) rfl d_Cr_mostAmong_7) (fun q2 => ?_)
  refine S.of1 (pc2 := 11) (L2 := [some (.ref c), some (.int v1), some (.int q1), some (.int q2), none, none, none]) (fun Q => g_istore_n d_Cr_mostAmong_10 (Nat.le_of_ble_eq_true rfl) rfl) ?_
  refine S.of1 (pc2 := 12) (fun Q => g_iload_n d_Cr_mostAmong_11 rfl) ?_
  refine S.br (c := q1 ≤ 0) (t := 21) (e := 15) (fun Q kt kf => g_if_le d_Cr_mostAmong_12 rfl kt kf) (fun h3 => ?_) (fun h3 => ?_)
  · refine S.of1 (pc2 := 22) (fun Q => g_iconst (v := (0 : Int32)) d_Cr_mostAmong_21 (by decide)) ?_
    exact S.ret (fun Q hq => g_iret rfl d_Cr_mostAmong_22 hq)
  · refine S.of1 (pc2 := 16) (fun Q => g_iload_n d_Cr_mostAmong_15 rfl) ?_
    refine S.of1 (pc2 := 18) (fun Q => g_bipush (v := (10 : Int32)) d_Cr_mostAmong_16 (by decide)) ?_
    refine S.br (c := q2 < (10 : Int32)) (t := 23) (e := 21) (fun Q kt kf => g_icmp_lt d_Cr_mostAmong_18 rfl kt kf) (fun h4 => ?_) (fun h4 => ?_)
    · refine S.of1 (pc2 := 24) (fun Q => g_iload_n d_Cr_mostAmong_23 rfl) ?_
      refine S.of1 (pc2 := 25) (fun Q => g_iconst (v := (1 : Int32)) d_Cr_mostAmong_24 (by decide)) ?_
      refine S.of1 (pc2 := 26) (fun Q => g_iload_n d_Cr_mostAmong_25 rfl) ?_
      refine S.of1 (pc2 := 27) (fun Q => g_ishl d_Cr_mostAmong_26) ?_
      refine S.of1 (pc2 := 28) (fun Q => g_iconst (v := (-1 : Int32)) d_Cr_mostAmong_27 (by decide)) ?_
      refine S.of1 (pc2 := 29) (fun Q => g_ixor d_Cr_mostAmong_28) ?_
      refine S.of1 (pc2 := 30) (fun Q => g_iand d_Cr_mostAmong_29) ?_
      refine S.of1 (pc2 := 32) (L2 := [some (.ref c), some (.int v1), some (.int q1), some (.int q2), some (.int (v1 &&& (((1 : Int32) <<< (q2 &&& 31)) ^^^ (-1 : Int32)))), none, none]) (fun Q => g_istore d_Cr_mostAmong_30 (Nat.le_of_ble_eq_true rfl) rfl) ?_
      refine S.glt (x := (v1 &&& (((1 : Int32) <<< (q2 &&& 31)) ^^^ (-1 : Int32)))) (Lf := fun y => [some (.ref c), some (.int v1), some (.int q1), some (.int q2), some (.int y), none, none]) (fun x5 => ?_)
      refine S.of1 (pc2 := 33) (fun Q => g_iconst (v := (0 : Int32)) d_Cr_mostAmong_32 (by decide)) ?_
      refine S.of1 (pc2 := 35) (L2 := [some (.ref c), some (.int v1), some (.int q1), some (.int q2), some (.int x5), some (.int (0 : Int32)), none]) (fun Q => g_istore d_Cr_mostAmong_33 (Nat.le_of_ble_eq_true rfl) rfl) ?_
      refine S.of1 (pc2 := 36) (fun Q => g_iload_n d_Cr_mostAmong_35 rfl) ?_
      refine S.of1 (pc2 := 37) (fun Q => g_iconst (v := (1 : Int32)) d_Cr_mostAmong_36 (by decide)) ?_
      refine S.of1 (pc2 := 38) (fun Q => g_iadd d_Cr_mostAmong_37) ?_
      refine S.of1 (pc2 := 40) (L2 := [some (.ref c), some (.int v1), some (.int q1), some (.int q2), some (.int x5), some (.int (0 : Int32)), some (.int (q2 + (1 : Int32)))]) (fun Q => g_istore d_Cr_mostAmong_38 (Nat.le_of_ble_eq_true rfl) rfl) ?_
      refine S.glt (x := (q2 + (1 : Int32))) (Lf := fun y => [some (.ref c), some (.int v1), some (.int q1), some (.int q2), some (.int x5), some (.int (0 : Int32)), some (.int y)]) (fun x6 => ?_)
      exact S.wk (L2 := [some (.ref c), none, some (.int q1), some (.int q2), some (.int x5), some (.int (0 : Int32)), some (.int x6)]) (And.intro rfl (And.intro rfl (And.intro rfl (And.intro rfl (And.intro rfl (And.intro rfl trivial)))))) (s_Cr_mostAmong_L40 D hD kmostAmong hkmostAmong d hd c hc σ gfu q1 q2 x5 (0 : Int32) x6)
    · refine S.of1 (pc2 := 22) (fun Q => g_iconst (v := (0 : Int32)) d_Cr_mostAmong_21 (by decide)) ?_
      exact S.ret (fun Q hq => g_iret rfl d_Cr_mostAmong_22 hq)
def f_Cr_mostAmong : Nat → Nat → Int32 → gS → Option Int32
  | 0, _, _, _ => none
  | n + 1, c, v1, σ => fo_Cr_mostAmong (fun c v1 σ => f_Cr_mostAmong n c v1 σ) c v1 σ
theorem c_Cr_mostAmong : ∀ (n d : Nat) (_ : 2 + 1 * n ≤ d) (c : Nat) (hc : gcls c = some 2) (v1 : Int32) (σ : gS), C (rI σ) d m_Cr_mostAmong [.ref c, .int v1] σ (f_Cr_mostAmong n c v1 σ) := by
  intro n
  induction n with
  | zero =>
    intros
    unfold f_Cr_mostAmong
    intro a Q h1 _
    cases h1
  | succ n ih =>
    intro d hd c hc v1 σ
    unfold f_Cr_mostAmong
    exact co_Cr_mostAmong (2 + 1 * n) (by omega) _ (fun d hd c hc v1 σ => ih d hd c hc v1 σ) d (by omega) c hc v1 σ
def f_Cr_mostCouples_j78 (c : Nat) (k18 : Int32 → gS → Option (Int32 × gS)) (k47 : Int32 → Int32 → gS → Option (Int32 × gS)) (v1 : Int32) (v2 : Int32) (s0 : Int32) (s1 : Int32) (s2 : Int32) (σ : gS) : Option (Int32 × gS) :=
  if gix s2 10 then gup (gpi σ (c + 4) s2.toNatClampNeg (s1 ||| s0)) fun s15 => k47 v1 (v2 + (1 : Int32)) s15 else none
theorem s_Cr_mostCouples_j78 (d : Nat) (hd : 15 ≤ d) (c : Nat) (hc : gcls c = some 2) (k18 : Int32 → gS → Option (Int32 × gS)) (hk18 : ∀ (v1 : Int32) (τ : gS), S wI m_Cr_mostCouples d 18 [some (.ref c), some (.int v1), none] [] τ (k18 v1 τ)) (k47 : Int32 → Int32 → gS → Option (Int32 × gS)) (hk47 : ∀ (v1 : Int32) (v2 : Int32) (τ : gS), S wI m_Cr_mostCouples d 47 [some (.ref c), some (.int v1), some (.int v2)] [] τ (k47 v1 v2 τ)) (v1 : Int32) (v2 : Int32) (s0 : Int32) (s1 : Int32) (s2 : Int32) (σ : gS) : S wI m_Cr_mostCouples d 78 [some (.ref c), some (.int v1), some (.int v2)] [.int s0, .int s1, .int s2, .ref (c + 4)] σ (f_Cr_mostCouples_j78 c k18 k47 v1 v2 s0 s1 s2 σ) := by
  unfold f_Cr_mostCouples_j78
  refine S.of1 (pc2 := 79) (fun Q => g_ior d_Cr_mostCouples_78) ?_
  refine S.chk (fun h14 => ?_)
  refine S.of1 (pc2 := 80) (fun Q => g_iast (gp_2_5 hc) (gix_in h14) d_Cr_mostCouples_79) ?_
  refine S.gup (fun s15 => ?_)
  refine S.of1 (pc2 := 83) (L2 := [some (.ref c), some (.int v1), some (.int (v2 + (1 : Int32)))]) (fun Q => g_iinc d_Cr_mostCouples_80 rfl (congrArg (fun z => v2 + z) (by decide)) (Nat.le_of_ble_eq_true rfl) rfl) ?_
  refine S.of1 (pc2 := 47) (fun Q => g_goto d_Cr_mostCouples_83 rfl) ?_
  exact S.wk (L2 := [some (.ref c), some (.int v1), some (.int (v2 + (1 : Int32)))]) (And.intro rfl (And.intro rfl (And.intro rfl trivial))) (hk47 v1 (v2 + (1 : Int32)) s15)
def f_Cr_mostCouples_L47 (c : Nat) (k18 : Int32 → gS → Option (Int32 × gS)) : Nat → Int32 → Int32 → gS → Option (Int32 × gS)
  | 0, _, _, _ => none
  | n + 1, v1, v2, σ =>
  if (σ.1 c 2) ≤ v2 then k18 (v1 + (1 : Int32)) σ else if gix v1 10 then (f_Cr_agree c v1 v2 σ).bind fun q12 => if q12 = 0 then f_Cr_mostCouples_j78 c k18 (fun v1 v2 σ => f_Cr_mostCouples_L47 c k18 n v1 v2 σ) v1 v2 (0 : Int32) (σ.1 (c + 4) v1.toNatClampNeg) v1 σ else f_Cr_mostCouples_j78 c k18 (fun v1 v2 σ => f_Cr_mostCouples_L47 c k18 n v1 v2 σ) v1 v2 ((1 : Int32) <<< (v2 &&& 31)) (σ.1 (c + 4) v1.toNatClampNeg) v1 σ else none
theorem s_Cr_mostCouples_L47 (d : Nat) (hd : 15 ≤ d) (c : Nat) (hc : gcls c = some 2) (k18 : Int32 → gS → Option (Int32 × gS)) (hk18 : ∀ (v1 : Int32) (τ : gS), S wI m_Cr_mostCouples d 18 [some (.ref c), some (.int v1), none] [] τ (k18 v1 τ)) : ∀ (n : Nat) (v1 : Int32) (v2 : Int32) (σ : gS), S wI m_Cr_mostCouples d 47 [some (.ref c), some (.int v1), some (.int v2)] [] σ (f_Cr_mostCouples_L47 c k18 n v1 v2 σ) := by
  intro n
  induction n with
  | zero =>
    intros
    unfold f_Cr_mostCouples_L47
    exact S.no
  | succ n ih =>
    intro v1 v2 σ
    unfold f_Cr_mostCouples_L47
    refine S.of1 (pc2 := 48) (fun Q => g_iload_n d_Cr_mostCouples_47 rfl) ?_
    refine S.of1 (pc2 := 49) (fun Q => g_aload_n d_Cr_mostCouples_48 rfl) ?_
    refine S.of1 (pc2 := 52) (fun Q => g_geti fl_RX2_52 (gq_2_2 hc) d_Cr_mostCouples_49) ?_
    refine S.br (c := (σ.1 c 2) ≤ v2) (t := 86) (e := 55) (fun Q kt kf => g_icmp_ge d_Cr_mostCouples_52 rfl kt kf) (fun h10 => ?_) (fun h10 => ?_)
    · refine S.of1 (pc2 := 89) (L2 := [some (.ref c), some (.int (v1 + (1 : Int32))), some (.int v2)]) (fun Q => g_iinc d_Cr_mostCouples_86 rfl (congrArg (fun z => v1 + z) (by decide)) (Nat.le_of_ble_eq_true rfl) rfl) ?_
      refine S.of1 (pc2 := 18) (fun Q => g_goto d_Cr_mostCouples_89 rfl) ?_
      exact S.wk (L2 := [some (.ref c), some (.int (v1 + (1 : Int32))), none]) (And.intro rfl (And.intro rfl trivial)) (hk18 (v1 + (1 : Int32)) σ)
    · refine S.of1 (pc2 := 56) (fun Q => g_aload_n d_Cr_mostCouples_55 rfl) ?_
      refine S.of1 (pc2 := 59) (fun Q => g_getr fl_RX2_21 (gq_2_5 hc) d_Cr_mostCouples_56) ?_
      refine S.of1 (pc2 := 60) (fun Q => g_iload_n d_Cr_mostCouples_59 rfl) ?_
      refine S.of1 (pc2 := 61) (fun Q => g_dup2 d_Cr_mostCouples_60 rfl rfl) ?_
      refine S.chk (fun h11 => ?_)
      refine S.of1 (pc2 := 62) (fun Q => g_iald (gp_2_5 hc) (gix_in h11) d_Cr_mostCouples_61) ?_
      refine S.of1 (pc2 := 63) (fun Q => g_aload_n d_Cr_mostCouples_62 rfl) ?_
      refine S.of1 (pc2 := 64) (fun Q => g_iload_n d_Cr_mostCouples_63 rfl) ?_
      refine S.of1 (pc2 := 65) (fun Q => g_iload_n d_Cr_mostCouples_64 rfl) ?_
      refine S.call_rI (pc3 := 68) rfl (c_Cr_agree (d - 1) (by omega) c hc v1 v2 σ) (fun Q => g_callV (M2 := m_Cr_agree) (vs := [.int v1, .int v2]) (st := [.int (σ.1 (c + 4) v1.toNatClampNeg), .int v1, .ref (c + 4)]) lv_RX2_100 hc rfl rfl (Nat.le_of_ble_eq_true rfl) (by omega) (Nat.le_of_ble_eq_true rfl) rfl d_Cr_mostCouples_65) (fun q12 => ?_)
      refine S.br (c := q12 = 0) (t := 77) (e := 71) (fun Q kt kf => g_if_eq d_Cr_mostCouples_68 rfl kt kf) (fun h13 => ?_) (fun h13 => ?_)
      · refine S.of1 (pc2 := 78) (fun Q => g_iconst (v := (0 : Int32)) d_Cr_mostCouples_77 (by decide)) ?_
        exact S.wk (L2 := [some (.ref c), some (.int v1), some (.int v2)]) (And.intro rfl (And.intro rfl (And.intro rfl trivial))) (s_Cr_mostCouples_j78 d hd c hc k18 hk18 (fun v1 v2 σ => f_Cr_mostCouples_L47 c k18 n v1 v2 σ) (fun v1 v2 τ => ih v1 v2 τ) v1 v2 (0 : Int32) (σ.1 (c + 4) v1.toNatClampNeg) v1 σ)
      · refine S.of1 (pc2 := 72) (fun Q => g_iconst (v := (1 : Int32)) d_Cr_mostCouples_71 (by decide)) ?_
        refine S.of1 (pc2 := 73) (fun Q => g_iload_n d_Cr_mostCouples_72 rfl) ?_
        refine S.of1 (pc2 := 74) (fun Q => g_ishl d_Cr_mostCouples_73) ?_
        refine S.of1 (pc2 := 78) (fun Q => g_goto d_Cr_mostCouples_74 rfl) ?_
        exact S.wk (L2 := [some (.ref c), some (.int v1), some (.int v2)]) (And.intro rfl (And.intro rfl (And.intro rfl trivial))) (s_Cr_mostCouples_j78 d hd c hc k18 hk18 (fun v1 v2 σ => f_Cr_mostCouples_L47 c k18 n v1 v2 σ) (fun v1 v2 τ => ih v1 v2 τ) v1 v2 ((1 : Int32) <<< (v2 &&& 31)) (σ.1 (c + 4) v1.toNatClampNeg) v1 σ)
def f_Cr_mostCouples_L18 (c : Nat) : Nat → Int32 → gS → Option (Int32 × gS)
  | 0, _, _ => none
  | n + 1, v1, σ =>
  if (σ.1 c 2) ≤ v1 then (f_Cr_mostAmong 12 c (((1 : Int32) <<< ((σ.1 c 2) &&& 31)) - (1 : Int32)) σ).bind fun q4 => some (q4, σ) else if gix v1 10 then if gix (σ.1 (c + 2) v1.toNatClampNeg) 8 then if gix (σ.1 (c + 2) v1.toNatClampNeg) 8 then gup (gpi σ (c + 5) (σ.1 (c + 2) v1.toNatClampNeg).toNatClampNeg ((σ.1 (c + 5) (σ.1 (c + 2) v1.toNatClampNeg).toNatClampNeg) ||| ((1 : Int32) <<< (v1 &&& 31)))) fun s8 => glt (v1 + (1 : Int32)) fun x9 => f_Cr_mostCouples_L47 c (fun v1 σ => f_Cr_mostCouples_L18 c n v1 σ) gfu v1 x9 s8 else none else none else none
theorem s_Cr_mostCouples_L18 (d : Nat) (hd : 15 ≤ d) (c : Nat) (hc : gcls c = some 2) : ∀ (n : Nat) (v1 : Int32) (σ : gS), S wI m_Cr_mostCouples d 18 [some (.ref c), some (.int v1), none] [] σ (f_Cr_mostCouples_L18 c n v1 σ) := by
  intro n
  induction n with
  | zero =>
    intros
    unfold f_Cr_mostCouples_L18
    exact S.no
  | succ n ih =>
    intro v1 σ
    unfold f_Cr_mostCouples_L18
    refine S.of1 (pc2 := 19) (fun Q => g_iload_n d_Cr_mostCouples_18 rfl) ?_
    refine S.of1 (pc2 := 20) (fun Q => g_aload_n d_Cr_mostCouples_19 rfl) ?_
    refine S.of1 (pc2 := 23) (fun Q => g_geti fl_RX2_52 (gq_2_2 hc) d_Cr_mostCouples_20) ?_
    refine S.br (c := (σ.1 c 2) ≤ v1) (t := 92) (e := 26) (fun Q kt kf => g_icmp_ge d_Cr_mostCouples_23 rfl kt kf) (fun h3 => ?_) (fun h3 => ?_)
    · refine S.of1 (pc2 := 93) (fun Q => g_aload_n d_Cr_mostCouples_92 rfl) ?_
      refine S.of1 (pc2 := 94) (fun Q => g_iconst (v := (1 : Int32)) d_Cr_mostCouples_93 (by decide)) ?_
      refine S.of1 (pc2 := 95) (fun Q => g_aload_n d_Cr_mostCouples_94 rfl) ?_
      refine S.of1 (pc2 := 98) (fun Q => g_geti fl_RX2_52 (gq_2_2 hc) d_Cr_mostCouples_95) ?_
      refine S.of1 (pc2 := 99) (fun Q => g_ishl d_Cr_mostCouples_98) ?_
      refine S.of1 (pc2 := 100) (fun Q => g_iconst (v := (1 : Int32)) d_Cr_mostCouples_99 (by decide)) ?_
      refine S.of1 (pc2 := 101) (fun Q => g_isub d_Cr_mostCouples_100) ?_
      refine S.call_rI (pc3 := 104) rfl (c_Cr_mostAmong 12 (d - 1) (by omega) c hc (((1 : Int32) <<< ((σ.1 c 2) &&& 31)) - (1 : Int32)) σ) (fun Q => g_callV (M2 := m_Cr_mostAmong) (vs := [.int (((1 : Int32) <<< ((σ.1 c 2) &&& 31)) - (1 : Int32))]) (st := []) lv_RX2_112 hc rfl rfl (Nat.le_of_ble_eq_true rfl) (by omega) (Nat.le_of_ble_eq_true rfl) rfl d_Cr_mostCouples_101) (fun q4 => ?_)
      exact S.ret (fun Q hq => g_iret rfl d_Cr_mostCouples_104 hq)
    · refine S.of1 (pc2 := 27) (fun Q => g_aload_n d_Cr_mostCouples_26 rfl) ?_
      refine S.of1 (pc2 := 30) (fun Q => g_getr fl_RX2_24 (gq_2_6 hc) d_Cr_mostCouples_27) ?_
      refine S.of1 (pc2 := 31) (fun Q => g_aload_n d_Cr_mostCouples_30 rfl) ?_
      refine S.of1 (pc2 := 34) (fun Q => g_getr fl_RX2_15 (gq_2_1 hc) d_Cr_mostCouples_31) ?_
      refine S.of1 (pc2 := 35) (fun Q => g_iload_n d_Cr_mostCouples_34 rfl) ?_
      refine S.chk (fun h5 => ?_)
      refine S.of1 (pc2 := 36) (fun Q => g_iald (gp_2_1 hc) (gix_in h5) d_Cr_mostCouples_35) ?_
      refine S.of1 (pc2 := 37) (fun Q => g_dup2 d_Cr_mostCouples_36 rfl rfl) ?_
      refine S.chk (fun h6 => ?_)
      refine S.of1 (pc2 := 38) (fun Q => g_iald (gp_2_6 hc) (gix_in h6) d_Cr_mostCouples_37) ?_
      refine S.of1 (pc2 := 39) (fun Q => g_iconst (v := (1 : Int32)) d_Cr_mostCouples_38 (by decide)) ?_
      refine S.of1 (pc2 := 40) (fun Q => g_iload_n d_Cr_mostCouples_39 rfl) ?_
      refine S.of1 (pc2 := 41) (fun Q => g_ishl d_Cr_mostCouples_40) ?_
      refine S.of1 (pc2 := 42) (fun Q => g_ior d_Cr_mostCouples_41) ?_
      refine S.chk (fun h7 => ?_)
      refine S.of1 (pc2 := 43) (fun Q => g_iast (gp_2_6 hc) (gix_in h7) d_Cr_mostCouples_42) ?_
      refine S.gup (fun s8 => ?_)
      refine S.of1 (pc2 := 44) (fun Q => g_iload_n d_Cr_mostCouples_43 rfl) ?_
      refine S.of1 (pc2 := 45) (fun Q => g_iconst (v := (1 : Int32)) d_Cr_mostCouples_44 (by decide)) ?_
      refine S.of1 (pc2 := 46) (fun Q => g_iadd d_Cr_mostCouples_45) ?_
      refine S.of1 (pc2 := 47) (L2 := [some (.ref c), some (.int v1), some (.int (v1 + (1 : Int32)))]) (fun Q => g_istore_n d_Cr_mostCouples_46 (Nat.le_of_ble_eq_true rfl) rfl) ?_
      refine S.glt (x := (v1 + (1 : Int32))) (Lf := fun y => [some (.ref c), some (.int v1), some (.int y)]) (fun x9 => ?_)
      exact S.wk (L2 := [some (.ref c), some (.int v1), some (.int x9)]) (And.intro rfl (And.intro rfl (And.intro rfl trivial))) (s_Cr_mostCouples_L47 d hd c hc (fun v1 σ => f_Cr_mostCouples_L18 c n v1 σ) (fun v1 τ => ih v1 τ) gfu v1 x9 s8)
def f_Cr_mostCouples (c : Nat) (σ : gS) : Option (Int32 × gS) :=
  (f_JA_fill 10 (c + 4) (0 : Int32) σ).bind fun s1 => (f_JA_fill 8 (c + 5) (0 : Int32) s1).bind fun s2 => f_Cr_mostCouples_L18 c gfu (0 : Int32) s2
theorem c_Cr_mostCouples (d : Nat) (hd : 15 ≤ d) (c : Nat) (hc : gcls c = some 2) (σ : gS) : C wI d m_Cr_mostCouples [.ref c] σ (f_Cr_mostCouples c σ) := by
  unfold f_Cr_mostCouples
  refine C.of (by decide +kernel) (Nat.le_of_ble_eq_true rfl) (L := [some (.ref c), none, none]) rfl ?_
  refine S.of1 (pc2 := 1) (fun Q => g_aload_n d_Cr_mostCouples_0 rfl) ?_
  refine S.of1 (pc2 := 4) (fun Q => g_getr fl_RX2_21 (gq_2_5 hc) d_Cr_mostCouples_1) ?_
  refine S.of1 (pc2 := 5) (fun Q => g_iconst (v := (0 : Int32)) d_Cr_mostCouples_4 (by decide)) ?_
  refine S.call_wV (pc3 := 8) rfl (c_JA_fill (d - 1) (by omega) 10 (by decide) (c + 4) (gp_2_5 hc) (0 : Int32) σ) (fun Q => g_callS (M2 := m_JA_fill) (vs := [.ref (c + 4), .int (0 : Int32)]) (st := []) ls_RX2_65 rfl (Nat.le_of_ble_eq_true rfl) (by omega) (Nat.le_of_ble_eq_true rfl) rfl d_Cr_mostCouples_5) (fun s1 => ?_)
  refine S.of1 (pc2 := 9) (fun Q => g_aload_n d_Cr_mostCouples_8 rfl) ?_
  refine S.of1 (pc2 := 12) (fun Q => g_getr fl_RX2_24 (gq_2_6 hc) d_Cr_mostCouples_9) ?_
  refine S.of1 (pc2 := 13) (fun Q => g_iconst (v := (0 : Int32)) d_Cr_mostCouples_12 (by decide)) ?_
  refine S.call_wV (pc3 := 16) rfl (c_JA_fill (d - 1) (by omega) 8 (by decide) (c + 5) (gp_2_6 hc) (0 : Int32) s1) (fun Q => g_callS (M2 := m_JA_fill) (vs := [.ref (c + 5), .int (0 : Int32)]) (st := []) ls_RX2_65 rfl (Nat.le_of_ble_eq_true rfl) (by omega) (Nat.le_of_ble_eq_true rfl) rfl d_Cr_mostCouples_13) (fun s2 => ?_)
  refine S.of1 (pc2 := 17) (fun Q => g_iconst (v := (0 : Int32)) d_Cr_mostCouples_16 (by decide)) ?_
  refine S.of1 (pc2 := 18) (L2 := [some (.ref c), some (.int (0 : Int32)), none]) (fun Q => g_istore_n d_Cr_mostCouples_17 (Nat.le_of_ble_eq_true rfl) rfl) ?_
  exact S.wk (L2 := [some (.ref c), some (.int (0 : Int32)), none]) (And.intro rfl (And.intro rfl trivial)) (s_Cr_mostCouples_L18 d hd c hc gfu (0 : Int32) s2)
