/-! SixMaps.corner(III)I -/
def b_X5_corner_75 (f : Nat)  (y0 : Int32) (h : Hp) : Option (Int32 × Hp) :=
  some (y0, h)
def b_X5_corner_16 (f : Nat)   (h : Hp) : Option (Int32 × Hp) :=
  some ((-1000001 : Int32), h)
def f_X5_corner (f : Nat)  (x0 : Nat) (x1 : Int32) (x2 : Int32) (x3 : Int32) (h : Hp) : Option (Int32 × Hp) :=
  bi (f_X5_areTwoBands f x1 x2 h) fun v2_ h1_ =>
  if v2_ = 0 then
  (b_X5_corner_16 f h1_)
  else
  (q_on h1_ x0 5 (
  bi (f_X5_isMark f x0 x3 h1_) fun v5_ h4_ =>
  if ¬ v5_ = 0 then
  ((q_gr h4_ x0 5 6).bind fun a6_ =>
  q_on h4_ a6_ 4 (
  bi (f_X4_has f a6_ x1 x2 x3 h4_) fun v9_ h8_ =>
  if v9_ = 0 then
  ((q_gr h8_ x0 5 10).bind fun a10_ =>
  (q_gr h8_ x0 5 3).bind fun a11_ =>
  (q_gr h8_ x0 5 6).bind fun a12_ =>
  q_on h8_ a10_ 1 (
  (f_X1_weigh f a10_ a11_ a12_ x1 h8_).bind fun h14_ =>
  (q_gr h14_ x0 5 10).bind fun a15_ =>
  (q_gi h14_ a15_ 1 12).bind fun v16_ =>
  if ¬ v16_ = 0 then
  ((q_gr h14_ x0 5 10).bind fun a17_ =>
  q_on h14_ a17_ 1 (
  bi (f_X1_leftAtWorst f a17_ x2 x3 h14_) fun v20_ h19_ =>
  b_X5_corner_75 f v20_ h19_))
  else
  (b_X5_corner_75 f (-1000003 : Int32) h14_)))
  else
  (some ((-1000003 : Int32), h8_))))
  else
  (b_X5_corner_16 f h4_)))
set_option maxRecDepth 20000 in
theorem t_X5_corner_75 {X : Cx} (o : Ok X RX5 cX5_corner 4 7 160 0 0 (some .int)) (f : Nat)  (y0 : Int32) (h : Hp) : Sim X (z_Zi X 0 0) 0 0 75 [] [.int y0] h (b_X5_corner_75 f y0 h) := by
  unfold b_X5_corner_75
  exact s_iret o dX5_corner_75
set_option maxRecDepth 20000 in
theorem t_X5_corner_16 {X : Cx} (o : Ok X RX5 cX5_corner 4 7 160 0 0 (some .int)) (f : Nat)   (h : Hp) : Sim X (z_Zi X 0 0) 0 0 16 [] [] h (b_X5_corner_16 f h) := by
  unfold b_X5_corner_16
  refine s_ldc o kc_X5_116 dX5_corner_16 (q := 18) rfl ?_
  exact s_iret o dX5_corner_18
set_option maxRecDepth 20000 in
theorem t_X5_corner_0 {X : Cx} (o : Ok X RX5 cX5_corner 4 7 160 0 0 (some .int)) (f : Nat)  (x0 : Nat) (x1 : Int32) (x2 : Int32) (x3 : Int32) (h : Hp) : Sim X (z_Zi X 0 0) 0 0 0 [(0, rf (xG X) x0), (1, .int x1), (2, .int x2), (3, .int x3)] [] h (f_X5_corner f x0 x1 x2 x3 h) := by
  unfold f_X5_corner
  refine s_iload_n o 1 rfl dX5_corner_0 (q := 1) rfl ?_
  refine s_iload_n o 2 rfl dX5_corner_1 (q := 2) rfl ?_
  refine s_bi (fun r0 hr0 => runS o cs_X5_137 (c_X5_areTwoBands (xG X) f x1 x2 h (xl X) r0 hr0) ⟨Nat.le_of_ble_eq_true rfl, Nat.le_of_ble_eq_true rfl⟩ rfl rfl (Nat.le_of_ble_eq_true rfl) dX5_corner_2 ⟨Nat.le_of_ble_eq_true rfl, Nat.le_of_ble_eq_true rfl⟩) (q := 5) rfl (cs' := 0) rfl (sl' := 0) rfl (fun v2_ h1_ => ?_)
  refine s_if_eq o (tgt := 16) dX5_corner_5 (by decide) (q := 8) rfl ?_ ?_
  · exact s_sub [] rfl (t_X5_corner_16 o f h1_)
  · refine s_aload_n o 0 rfl dX5_corner_8 (q := 9) rfl ?_
    refine s_iload_n o 3 rfl dX5_corner_9 (q := 10) rfl ?_
    refine s_on (fun hk3_ => ?_)
    refine s_bi (fun r0 hr0 => runV o hk3_ cv_X5_112 (c_X5_isMark (xG X) f x0 x3 h1_ (xl X) r0 hr0) ⟨Nat.le_of_ble_eq_true rfl, Nat.le_of_ble_eq_true rfl⟩ rfl rfl (Nat.le_of_ble_eq_true rfl) dX5_corner_10 ⟨Nat.le_of_ble_eq_true rfl, Nat.le_of_ble_eq_true rfl⟩) (q := 13) rfl (cs' := 0) rfl (sl' := 0) rfl (fun v5_ h4_ => ?_)
    refine s_if_ne o (tgt := 19) dX5_corner_13 (by decide) (q := 16) rfl ?_ ?_
    · refine s_aload_n o 0 rfl dX5_corner_19 (q := 20) rfl ?_
      refine s_gr o kf_X5_40 dX5_corner_20 (q := 23) rfl (fun a6_ => ?_)
      refine s_iload_n o 1 rfl dX5_corner_23 (q := 24) rfl ?_
      refine s_iload_n o 2 rfl dX5_corner_24 (q := 25) rfl ?_
      refine s_iload_n o 3 rfl dX5_corner_25 (q := 26) rfl ?_
      refine s_on (fun hk7_ => ?_)
      refine s_bi (fun r0 hr0 => runV o hk7_ cv_X5_141 (c_X4_has (xG X) f a6_ x1 x2 x3 h4_ (xl X) r0 hr0) ⟨Nat.le_of_ble_eq_true rfl, Nat.le_of_ble_eq_true rfl⟩ rfl rfl (Nat.le_of_ble_eq_true rfl) dX5_corner_26 ⟨Nat.le_of_ble_eq_true rfl, Nat.le_of_ble_eq_true rfl⟩) (q := 29) rfl (cs' := 0) rfl (sl' := 0) rfl (fun v9_ h8_ => ?_)
      refine s_if_eq o (tgt := 35) dX5_corner_29 (by decide) (q := 32) rfl ?_ ?_
      · refine s_aload_n o 0 rfl dX5_corner_35 (q := 36) rfl ?_
        refine s_gr o kf_X5_62 dX5_corner_36 (q := 39) rfl (fun a10_ => ?_)
        refine s_aload_n o 0 rfl dX5_corner_39 (q := 40) rfl ?_
        refine s_gr o kf_X5_23 dX5_corner_40 (q := 43) rfl (fun a11_ => ?_)
        refine s_aload_n o 0 rfl dX5_corner_43 (q := 44) rfl ?_
        refine s_gr o kf_X5_40 dX5_corner_44 (q := 47) rfl (fun a12_ => ?_)
        refine s_iload_n o 1 rfl dX5_corner_47 (q := 48) rfl ?_
        refine s_on (fun hk13_ => ?_)
        refine s_callv (fun r0 hr0 => runV o hk13_ cv_X5_161 (c_X1_weigh (xG X) f a10_ a11_ a12_ x1 h8_ (xl X) r0 hr0) ⟨Nat.le_of_ble_eq_true rfl, Nat.le_of_ble_eq_true rfl⟩ rfl rfl (Nat.le_of_ble_eq_true rfl) dX5_corner_48 ⟨Nat.le_of_ble_eq_true rfl, Nat.le_of_ble_eq_true rfl⟩) (q := 51) rfl (cs' := 0) rfl (sl' := 0) rfl (fun h14_ => ?_)
        refine s_aload_n o 0 rfl dX5_corner_51 (q := 52) rfl ?_
        refine s_gr o kf_X5_62 dX5_corner_52 (q := 55) rfl (fun a15_ => ?_)
        refine s_gi o kf_X5_165 dX5_corner_55 (q := 58) rfl (fun v16_ => ?_)
        refine s_if_ne o (tgt := 66) dX5_corner_58 (by decide) (q := 61) rfl ?_ ?_
        · refine s_aload_n o 0 rfl dX5_corner_66 (q := 67) rfl ?_
          refine s_gr o kf_X5_62 dX5_corner_67 (q := 70) rfl (fun a17_ => ?_)
          refine s_iload_n o 2 rfl dX5_corner_70 (q := 71) rfl ?_
          refine s_iload_n o 3 rfl dX5_corner_71 (q := 72) rfl ?_
          refine s_on (fun hk18_ => ?_)
          refine s_bi (fun r0 hr0 => runV o hk18_ cv_X5_200 (c_X1_leftAtWorst (xG X) f a17_ x2 x3 h14_ (xl X) r0 hr0) ⟨Nat.le_of_ble_eq_true rfl, Nat.le_of_ble_eq_true rfl⟩ rfl rfl (Nat.le_of_ble_eq_true rfl) dX5_corner_72 ⟨Nat.le_of_ble_eq_true rfl, Nat.le_of_ble_eq_true rfl⟩) (q := 75) rfl (cs' := 0) rfl (sl' := 0) rfl (fun v20_ h19_ => ?_)
          exact s_sub [] rfl (t_X5_corner_75 o f v20_ h19_)
        · refine s_ldc o kc_X5_133 dX5_corner_61 (q := 63) rfl ?_
          refine s_goto o (tgt := 75) dX5_corner_63 (by decide) ?_
          exact s_sub [] rfl (t_X5_corner_75 o f (-1000003 : Int32) h14_)
      · refine s_ldc o kc_X5_133 dX5_corner_32 (q := 34) rfl ?_
        exact s_iret o dX5_corner_34
    · exact s_sub [] rfl (t_X5_corner_16 o f h4_)
theorem c_X5_corner (G : Gx) (f : Nat) (x0 : Nat) (x1 : Int32) (x2 : Int32) (x3 : Int32) (h : Hp) : z_M z_qi G yX5_corner cX5_corner 4 (some .int) 7 160 0 0 [rf G x0, .int x1, .int x2, .int x3] h (f_X5_corner f x0 x1 x2 x3 h) :=
  z_met (by decide +kernel) (Nat.le_of_ble_eq_true rfl) (fun X hG hn o hnm => by
    subst hG
    show Sim X (z_Zi X 0 0) 0 0 0 [(0, rf (xG X) x0), (1, .int x1), (2, .int x2), (3, .int x3)] [] h _
    exact s_sub [0, 1, 2, 3] rfl (t_X5_corner_0 o f x0 x1 x2 x3 h))
/-! SixMaps.digAt(III)V -/
def b_X5_digAt_128 (f : Nat)   (h : Hp) : Option (Hp) :=
  some h
def b_X5_digAt_71 (f : Nat)  (x0 : Nat) (x2 : Int32) (x3 : Int32) (h : Hp) : Option (Hp) :=
  (q_gr h x0 5 6).bind fun a1_ =>
  (q_gi h a1_ 4 4).bind fun v2_ =>
  if (20 : Int32) ≤ v2_ then
  (b_X5_digAt_128 f h)
  else
  ((q_gr h x0 5 6).bind fun a3_ =>
  (q_gr h a3_ 4 1).bind fun a4_ =>
  (q_gr h x0 5 6).bind fun a5_ =>
  (q_gi h a5_ 4 4).bind fun v6_ =>
  (q_as h a4_ 9 v6_ x2).bind fun h7_ =>
  (q_gr h7_ x0 5 6).bind fun a8_ =>
  (q_gr h7_ a8_ 4 2).bind fun a9_ =>
  (q_gr h7_ x0 5 6).bind fun a10_ =>
  (q_gi h7_ a10_ 4 4).bind fun v11_ =>
  (q_as h7_ a9_ 9 v11_ x3).bind fun h12_ =>
  (q_gr h12_ x0 5 6).bind fun a13_ =>
  (q_gi h12_ a13_ 4 4).bind fun v14_ =>
  (q_pi h12_ a13_ 4 4 (v14_ + (1 : Int32))).bind fun h15_ =>
  b_X5_digAt_128 f h15_)
def f_X5_digAt (f : Nat)  (x0 : Nat) (x1 : Int32) (x2 : Int32) (x3 : Int32) (h : Hp) : Option (Hp) :=
  (q_gr h x0 5 6).bind fun a1_ =>
  (q_gr h a1_ 4 3).bind fun a2_ =>
  (q_ai h a2_ 9 x1).bind fun v3_ =>
  (q_gr h x0 5 3).bind fun a4_ =>
  (q_gi h a4_ 0 11).bind fun v5_ =>
  (q_as h a2_ 9 x1 (v3_ - v5_)).bind fun h6_ =>
  (q_gr h6_ x0 5 3).bind fun a7_ =>
  q_on h6_ a7_ 0 (
  bi (f_X0_soughtX f a7_ h6_) fun v10_ h9_ =>
  if ¬ x2 = v10_ then
  (b_X5_digAt_71 f x0 x2 x3 h9_)
  else
  ((q_gr h9_ x0 5 3).bind fun a11_ =>
  q_on h9_ a11_ 0 (
  bi (f_X0_soughtY f a11_ h9_) fun v14_ h13_ =>
  if ¬ x3 = v14_ then
  (b_X5_digAt_71 f x0 x2 x3 h13_)
  else
  ((q_gr h13_ x0 5 6).bind fun a15_ =>
  (q_gr h13_ a15_ 4 3).bind fun a16_ =>
  (q_ai h13_ a16_ 9 x1).bind fun v17_ =>
  (q_gr h13_ x0 5 3).bind fun a18_ =>
  (q_gi h13_ a18_ 0 12).bind fun v19_ =>
  (q_as h13_ a16_ 9 x1 (v17_ + v19_)).bind fun h20_ =>
  (q_gr h20_ x0 5 6).bind fun a21_ =>
  (q_pi h20_ a21_ 4 5 x1).bind fun h22_ =>
  b_X5_digAt_128 f h22_))))
set_option maxRecDepth 20000 in
theorem t_X5_digAt_128 {X : Cx} (o : Ok X RX5 cX5_digAt 4 1 20 0 0 none) (f : Nat)   (h : Hp) : Sim X (z_Zv X 0 0) 0 0 128 [] [] h (b_X5_digAt_128 f h) := by
  unfold b_X5_digAt_128
  exact s_vret o dX5_digAt_128
set_option maxRecDepth 20000 in
theorem t_X5_digAt_71 {X : Cx} (o : Ok X RX5 cX5_digAt 4 1 20 0 0 none) (f : Nat)  (x0 : Nat) (x2 : Int32) (x3 : Int32) (h : Hp) : Sim X (z_Zv X 0 0) 0 0 71 [(0, rf (xG X) x0), (2, .int x2), (3, .int x3)] [] h (b_X5_digAt_71 f x0 x2 x3 h) := by
  unfold b_X5_digAt_71
  refine s_aload_n o 0 rfl dX5_digAt_71 (q := 72) rfl ?_
  refine s_gr o kf_X5_40 dX5_digAt_72 (q := 75) rfl (fun a1_ => ?_)
  refine s_gi o kf_X5_106 dX5_digAt_75 (q := 78) rfl (fun v2_ => ?_)
  refine s_bipush o dX5_digAt_78 (v := (20 : Int32)) (by decide) (q := 80) rfl ?_
  refine s_ic_ge o (tgt := 128) dX5_digAt_80 (by decide) (q := 83) rfl ?_ ?_
  · exact s_sub [] rfl (t_X5_digAt_128 o f h)
  · refine s_aload_n o 0 rfl dX5_digAt_83 (q := 84) rfl ?_
    refine s_gr o kf_X5_40 dX5_digAt_84 (q := 87) rfl (fun a3_ => ?_)
    refine s_gr o kf_X5_256 dX5_digAt_87 (q := 90) rfl (fun a4_ => ?_)
    refine s_aload_n o 0 rfl dX5_digAt_90 (q := 91) rfl ?_
    refine s_gr o kf_X5_40 dX5_digAt_91 (q := 94) rfl (fun a5_ => ?_)
    refine s_gi o kf_X5_106 dX5_digAt_94 (q := 97) rfl (fun v6_ => ?_)
    refine s_iload_n o 1 rfl dX5_digAt_97 (q := 98) rfl ?_
    refine s_iast o dX5_digAt_98 (q := 99) rfl (fun h7_ => ?_)
    refine s_aload_n o 0 rfl dX5_digAt_99 (q := 100) rfl ?_
    refine s_gr o kf_X5_40 dX5_digAt_100 (q := 103) rfl (fun a8_ => ?_)
    refine s_gr o kf_X5_259 dX5_digAt_103 (q := 106) rfl (fun a9_ => ?_)
    refine s_aload_n o 0 rfl dX5_digAt_106 (q := 107) rfl ?_
    refine s_gr o kf_X5_40 dX5_digAt_107 (q := 110) rfl (fun a10_ => ?_)
    refine s_gi o kf_X5_106 dX5_digAt_110 (q := 113) rfl (fun v11_ => ?_)
    refine s_iload_n o 2 rfl dX5_digAt_113 (q := 114) rfl ?_
    refine s_iast o dX5_digAt_114 (q := 115) rfl (fun h12_ => ?_)
    refine s_aload_n o 0 rfl dX5_digAt_115 (q := 116) rfl ?_
    refine s_gr o kf_X5_40 dX5_digAt_116 (q := 119) rfl (fun a13_ => ?_)
    refine s_dup o rfl dX5_digAt_119 (q := 120) rfl ?_
    refine s_gi o kf_X5_106 dX5_digAt_120 (q := 123) rfl (fun v14_ => ?_)
    refine s_iconst o dX5_digAt_123 (v := (1 : Int32)) (by decide) (q := 124) rfl ?_
    refine s_iadd o dX5_digAt_124 (q := 125) rfl ?_
    refine s_pi o kf_X5_106 dX5_digAt_125 (q := 128) rfl (fun h15_ => ?_)
    exact s_sub [] rfl (t_X5_digAt_128 o f h15_)
set_option maxRecDepth 20000 in
theorem t_X5_digAt_0 {X : Cx} (o : Ok X RX5 cX5_digAt 4 1 20 0 0 none) (f : Nat)  (x0 : Nat) (x1 : Int32) (x2 : Int32) (x3 : Int32) (h : Hp) : Sim X (z_Zv X 0 0) 0 0 0 [(0, rf (xG X) x0), (1, .int x1), (2, .int x2), (3, .int x3)] [] h (f_X5_digAt f x0 x1 x2 x3 h) := by
  unfold f_X5_digAt
  refine s_aload_n o 0 rfl dX5_digAt_0 (q := 1) rfl ?_
  refine s_gr o kf_X5_40 dX5_digAt_1 (q := 4) rfl (fun a1_ => ?_)
  refine s_gr o kf_X5_158 dX5_digAt_4 (q := 7) rfl (fun a2_ => ?_)
  refine s_iload_n o 1 rfl dX5_digAt_7 (q := 8) rfl ?_
  refine s_dup2 o rfl rfl dX5_digAt_8 (q := 9) rfl ?_
  refine s_iald o dX5_digAt_9 (q := 10) rfl (fun v3_ => ?_)
  refine s_aload_n o 0 rfl dX5_digAt_10 (q := 11) rfl ?_
  refine s_gr o kf_X5_23 dX5_digAt_11 (q := 14) rfl (fun a4_ => ?_)
  refine s_gi o kf_X5_100 dX5_digAt_14 (q := 17) rfl (fun v5_ => ?_)
  refine s_isub o dX5_digAt_17 (q := 18) rfl ?_
  refine s_iast o dX5_digAt_18 (q := 19) rfl (fun h6_ => ?_)
  refine s_iload_n o 2 rfl dX5_digAt_19 (q := 20) rfl ?_
  refine s_aload_n o 0 rfl dX5_digAt_20 (q := 21) rfl ?_
  refine s_gr o kf_X5_23 dX5_digAt_21 (q := 24) rfl (fun a7_ => ?_)
  refine s_on (fun hk8_ => ?_)
  refine s_bi (fun r0 hr0 => runV o hk8_ cv_X5_250 (c_X0_soughtX (xG X) f a7_ h6_ (xl X) r0 hr0) ⟨Nat.le_of_ble_eq_true rfl, Nat.le_of_ble_eq_true rfl⟩ rfl rfl (Nat.le_of_ble_eq_true rfl) dX5_digAt_24 ⟨Nat.le_of_ble_eq_true rfl, Nat.le_of_ble_eq_true rfl⟩) (q := 27) rfl (cs' := 0) rfl (sl' := 0) rfl (fun v10_ h9_ => ?_)
  refine s_ic_ne o (tgt := 71) dX5_digAt_27 (by decide) (q := 30) rfl ?_ ?_
  · exact s_sub [0, 2, 3] rfl (t_X5_digAt_71 o f x0 x2 x3 h9_)
  · refine s_iload_n o 3 rfl dX5_digAt_30 (q := 31) rfl ?_
    refine s_aload_n o 0 rfl dX5_digAt_31 (q := 32) rfl ?_
    refine s_gr o kf_X5_23 dX5_digAt_32 (q := 35) rfl (fun a11_ => ?_)
    refine s_on (fun hk12_ => ?_)
    refine s_bi (fun r0 hr0 => runV o hk12_ cv_X5_253 (c_X0_soughtY (xG X) f a11_ h9_ (xl X) r0 hr0) ⟨Nat.le_of_ble_eq_true rfl, Nat.le_of_ble_eq_true rfl⟩ rfl rfl (Nat.le_of_ble_eq_true rfl) dX5_digAt_35 ⟨Nat.le_of_ble_eq_true rfl, Nat.le_of_ble_eq_true rfl⟩) (q := 38) rfl (cs' := 0) rfl (sl' := 0) rfl (fun v14_ h13_ => ?_)
    refine s_ic_ne o (tgt := 71) dX5_digAt_38 (by decide) (q := 41) rfl ?_ ?_
    · exact s_sub [0, 2, 3] rfl (t_X5_digAt_71 o f x0 x2 x3 h13_)
    · refine s_aload_n o 0 rfl dX5_digAt_41 (q := 42) rfl ?_
      refine s_gr o kf_X5_40 dX5_digAt_42 (q := 45) rfl (fun a15_ => ?_)
      refine s_gr o kf_X5_158 dX5_digAt_45 (q := 48) rfl (fun a16_ => ?_)
      refine s_iload_n o 1 rfl dX5_digAt_48 (q := 49) rfl ?_
      refine s_dup2 o rfl rfl dX5_digAt_49 (q := 50) rfl ?_
      refine s_iald o dX5_digAt_50 (q := 51) rfl (fun v17_ => ?_)
      refine s_aload_n o 0 rfl dX5_digAt_51 (q := 52) rfl ?_
      refine s_gr o kf_X5_23 dX5_digAt_52 (q := 55) rfl (fun a18_ => ?_)
      refine s_gi o kf_X5_103 dX5_digAt_55 (q := 58) rfl (fun v19_ => ?_)
      refine s_iadd o dX5_digAt_58 (q := 59) rfl ?_
      refine s_iast o dX5_digAt_59 (q := 60) rfl (fun h20_ => ?_)
      refine s_aload_n o 0 rfl dX5_digAt_60 (q := 61) rfl ?_
      refine s_gr o kf_X5_40 dX5_digAt_61 (q := 64) rfl (fun a21_ => ?_)
      refine s_iload_n o 1 rfl dX5_digAt_64 (q := 65) rfl ?_
      refine s_pi o kf_X5_109 dX5_digAt_65 (q := 68) rfl (fun h22_ => ?_)
      refine s_goto o (tgt := 128) dX5_digAt_68 (by decide) ?_
      exact s_sub [] rfl (t_X5_digAt_128 o f h22_)
theorem c_X5_digAt (G : Gx) (f : Nat) (x0 : Nat) (x1 : Int32) (x2 : Int32) (x3 : Int32) (h : Hp) : z_M z_qv G yX5_digAt cX5_digAt 4 none 1 20 0 0 [rf G x0, .int x1, .int x2, .int x3] h (f_X5_digAt f x0 x1 x2 x3 h) :=
  z_met (by decide +kernel) (Nat.le_of_ble_eq_true rfl) (fun X hG hn o hnm => by
    subst hG
    show Sim X (z_Zv X 0 0) 0 0 0 [(0, rf (xG X) x0), (1, .int x1), (2, .int x2), (3, .int x3)] [] h _
    exact s_sub [0, 1, 2, 3] rfl (t_X5_digAt_0 o f x0 x1 x2 x3 h))
/-! SixMaps.dig(III)I -/
def b_X5_dig_95 (f : Nat)  (y0 : Int32) (h : Hp) : Option (Int32 × Hp) :=
  some (y0, h)
def b_X5_dig_54 (f : Nat)   (h : Hp) : Option (Int32 × Hp) :=
  some ((-1000003 : Int32), h)
def b_X5_dig_30 (f : Nat)   (h : Hp) : Option (Int32 × Hp) :=
  some ((-1000002 : Int32), h)
def f_X5_dig (f : Nat)  (x0 : Nat) (x1 : Int32) (x2 : Int32) (x3 : Int32) (h : Hp) : Option (Int32 × Hp) :=
  bi (f_X5_isBand f x1 h) fun v2_ h1_ =>
  if ¬ v2_ = 0 then
  (if x2 < 0 then
  (b_X5_dig_30 f h1_)
  else
  (if (99 : Int32) < x2 then
  (b_X5_dig_30 f h1_)
  else
  (if x3 < 0 then
  (b_X5_dig_30 f h1_)
  else
  (if x3 ≤ (99 : Int32) then
  ((q_gr h1_ x0 5 3).bind fun a3_ =>
  (q_gi h1_ a3_ 0 4).bind fun v4_ =>
  if v4_ = 0 then
  (b_X5_dig_54 f h1_)
  else
  ((q_gr h1_ x0 5 6).bind fun a5_ =>
  (q_gi h1_ a5_ 4 5).bind fun v6_ =>
  if v6_ = (-1 : Int32) then
  ((q_gr h1_ x0 5 6).bind fun a7_ =>
  (q_gi h1_ a7_ 4 4).bind fun v8_ =>
  if v8_ < (20 : Int32) then
  (q_on h1_ x0 5 (
  (f_X5_digAt f x0 x1 x2 x3 h1_).bind fun h10_ =>
  (q_gr h10_ x0 5 6).bind fun a11_ =>
  (q_gi h10_ a11_ 4 5).bind fun v12_ =>
  if ¬ v12_ = (-1 : Int32) then
  (b_X5_dig_95 f (1 : Int32) h10_)
  else
  (b_X5_dig_95 f (0 : Int32) h10_)))
  else
  (some ((-1000004 : Int32), h1_)))
  else
  (b_X5_dig_54 f h1_)))
  else
  (b_X5_dig_30 f h1_)))))
  else
  (some ((-1000001 : Int32), h1_))
set_option maxRecDepth 20000 in
theorem t_X5_dig_95 {X : Cx} (o : Ok X RX5 cX5_dig 4 2 43 0 0 (some .int)) (f : Nat)  (y0 : Int32) (h : Hp) : Sim X (z_Zi X 0 0) 0 0 95 [] [.int y0] h (b_X5_dig_95 f y0 h) := by
  unfold b_X5_dig_95
  exact s_iret o dX5_dig_95
set_option maxRecDepth 20000 in
theorem t_X5_dig_54 {X : Cx} (o : Ok X RX5 cX5_dig 4 2 43 0 0 (some .int)) (f : Nat)   (h : Hp) : Sim X (z_Zi X 0 0) 0 0 54 [] [] h (b_X5_dig_54 f h) := by
  unfold b_X5_dig_54
  refine s_ldc o kc_X5_133 dX5_dig_54 (q := 56) rfl ?_
  exact s_iret o dX5_dig_56
set_option maxRecDepth 20000 in
theorem t_X5_dig_30 {X : Cx} (o : Ok X RX5 cX5_dig 4 2 43 0 0 (some .int)) (f : Nat)   (h : Hp) : Sim X (z_Zi X 0 0) 0 0 30 [] [] h (b_X5_dig_30 f h) := by
  unfold b_X5_dig_30
  refine s_ldc o kc_X5_66 dX5_dig_30 (q := 32) rfl ?_
  exact s_iret o dX5_dig_32
set_option maxRecDepth 20000 in
theorem t_X5_dig_0 {X : Cx} (o : Ok X RX5 cX5_dig 4 2 43 0 0 (some .int)) (f : Nat)  (x0 : Nat) (x1 : Int32) (x2 : Int32) (x3 : Int32) (h : Hp) : Sim X (z_Zi X 0 0) 0 0 0 [(0, rf (xG X) x0), (1, .int x1), (2, .int x2), (3, .int x3)] [] h (f_X5_dig f x0 x1 x2 x3 h) := by
  unfold f_X5_dig
  refine s_iload_n o 1 rfl dX5_dig_0 (q := 1) rfl ?_
  refine s_bi (fun r0 hr0 => runS o cs_X5_124 (c_X5_isBand (xG X) f x1 h (xl X) r0 hr0) ⟨Nat.le_of_ble_eq_true rfl, Nat.le_of_ble_eq_true rfl⟩ rfl rfl (Nat.le_of_ble_eq_true rfl) dX5_dig_1 ⟨Nat.le_of_ble_eq_true rfl, Nat.le_of_ble_eq_true rfl⟩) (q := 4) rfl (cs' := 0) rfl (sl' := 0) rfl (fun v2_ h1_ => ?_)
  refine s_if_ne o (tgt := 10) dX5_dig_4 (by decide) (q := 7) rfl ?_ ?_
  · refine s_iload_n o 2 rfl dX5_dig_10 (q := 11) rfl ?_
    refine s_if_lt o (tgt := 30) dX5_dig_11 (by decide) (q := 14) rfl ?_ ?_
    · exact s_sub [] rfl (t_X5_dig_30 o f h1_)
    · refine s_iload_n o 2 rfl dX5_dig_14 (q := 15) rfl ?_
      refine s_bipush o dX5_dig_15 (v := (99 : Int32)) (by decide) (q := 17) rfl ?_
      refine s_ic_gt o (tgt := 30) dX5_dig_17 (by decide) (q := 20) rfl ?_ ?_
      · exact s_sub [] rfl (t_X5_dig_30 o f h1_)
      · refine s_iload_n o 3 rfl dX5_dig_20 (q := 21) rfl ?_
        refine s_if_lt o (tgt := 30) dX5_dig_21 (by decide) (q := 24) rfl ?_ ?_
        · exact s_sub [] rfl (t_X5_dig_30 o f h1_)
        · refine s_iload_n o 3 rfl dX5_dig_24 (q := 25) rfl ?_
          refine s_bipush o dX5_dig_25 (v := (99 : Int32)) (by decide) (q := 27) rfl ?_
          refine s_ic_le o (tgt := 33) dX5_dig_27 (by decide) (q := 30) rfl ?_ ?_
          · refine s_aload_n o 0 rfl dX5_dig_33 (q := 34) rfl ?_
            refine s_gr o kf_X5_23 dX5_dig_34 (q := 37) rfl (fun a3_ => ?_)
            refine s_gi o kf_X5_75 dX5_dig_37 (q := 40) rfl (fun v4_ => ?_)
            refine s_if_eq o (tgt := 54) dX5_dig_40 (by decide) (q := 43) rfl ?_ ?_
            · exact s_sub [] rfl (t_X5_dig_54 o f h1_)
            · refine s_aload_n o 0 rfl dX5_dig_43 (q := 44) rfl ?_
              refine s_gr o kf_X5_40 dX5_dig_44 (q := 47) rfl (fun a5_ => ?_)
              refine s_gi o kf_X5_109 dX5_dig_47 (q := 50) rfl (fun v6_ => ?_)
              refine s_iconst o dX5_dig_50 (v := (-1 : Int32)) (by decide) (q := 51) rfl ?_
              refine s_ic_eq o (tgt := 57) dX5_dig_51 (by decide) (q := 54) rfl ?_ ?_
              · refine s_aload_n o 0 rfl dX5_dig_57 (q := 58) rfl ?_
                refine s_gr o kf_X5_40 dX5_dig_58 (q := 61) rfl (fun a7_ => ?_)
                refine s_gi o kf_X5_106 dX5_dig_61 (q := 64) rfl (fun v8_ => ?_)
                refine s_bipush o dX5_dig_64 (v := (20 : Int32)) (by decide) (q := 66) rfl ?_
                refine s_ic_lt o (tgt := 72) dX5_dig_66 (by decide) (q := 69) rfl ?_ ?_
                · refine s_aload_n o 0 rfl dX5_dig_72 (q := 73) rfl ?_
                  refine s_iload_n o 1 rfl dX5_dig_73 (q := 74) rfl ?_
                  refine s_iload_n o 2 rfl dX5_dig_74 (q := 75) rfl ?_
                  refine s_iload_n o 3 rfl dX5_dig_75 (q := 76) rfl ?_
                  refine s_on (fun hk9_ => ?_)
                  refine s_callv (fun r0 hr0 => runV o hk9_ cv_X5_155 (c_X5_digAt (xG X) f x0 x1 x2 x3 h1_ (xl X) r0 hr0) ⟨Nat.le_of_ble_eq_true rfl, Nat.le_of_ble_eq_true rfl⟩ rfl rfl (Nat.le_of_ble_eq_true rfl) dX5_dig_76 ⟨Nat.le_of_ble_eq_true rfl, Nat.le_of_ble_eq_true rfl⟩) (q := 79) rfl (cs' := 0) rfl (sl' := 0) rfl (fun h10_ => ?_)
                  refine s_aload_n o 0 rfl dX5_dig_79 (q := 80) rfl ?_
                  refine s_gr o kf_X5_40 dX5_dig_80 (q := 83) rfl (fun a11_ => ?_)
                  refine s_gi o kf_X5_109 dX5_dig_83 (q := 86) rfl (fun v12_ => ?_)
                  refine s_iconst o dX5_dig_86 (v := (-1 : Int32)) (by decide) (q := 87) rfl ?_
                  refine s_ic_ne o (tgt := 94) dX5_dig_87 (by decide) (q := 90) rfl ?_ ?_
                  · refine s_iconst o dX5_dig_94 (v := (1 : Int32)) (by decide) (q := 95) rfl ?_
                    exact s_sub [] rfl (t_X5_dig_95 o f (1 : Int32) h10_)
                  · refine s_iconst o dX5_dig_90 (v := (0 : Int32)) (by decide) (q := 91) rfl ?_
                    refine s_goto o (tgt := 95) dX5_dig_91 (by decide) ?_
                    exact s_sub [] rfl (t_X5_dig_95 o f (0 : Int32) h10_)
                · refine s_ldc o kc_X5_67 dX5_dig_69 (q := 71) rfl ?_
                  exact s_iret o dX5_dig_71
              · exact s_sub [] rfl (t_X5_dig_54 o f h1_)
          · exact s_sub [] rfl (t_X5_dig_30 o f h1_)
  · refine s_ldc o kc_X5_116 dX5_dig_7 (q := 9) rfl ?_
    exact s_iret o dX5_dig_9
theorem c_X5_dig (G : Gx) (f : Nat) (x0 : Nat) (x1 : Int32) (x2 : Int32) (x3 : Int32) (h : Hp) : z_M z_qi G yX5_dig cX5_dig 4 (some .int) 2 43 0 0 [rf G x0, .int x1, .int x2, .int x3] h (f_X5_dig f x0 x1 x2 x3 h) :=
  z_met (by decide +kernel) (Nat.le_of_ble_eq_true rfl) (fun X hG hn o hnm => by
    subst hG
    show Sim X (z_Zi X 0 0) 0 0 0 [(0, rf (xG X) x0), (1, .int x1), (2, .int x2), (3, .int x3)] [] h _
    exact s_sub [0, 1, 2, 3] rfl (t_X5_dig_0 o f x0 x1 x2 x3 h))
/-! SixMaps.fault()I -/
def f_X5_fault (f : Nat)  (x0 : Nat) (h : Hp) : Option (Int32 × Hp) :=
  (q_gi h x0 5 2).bind fun v1_ =>
  some (v1_, h)
set_option maxRecDepth 20000 in
theorem t_X5_fault_0 {X : Cx} (o : Ok X RX5 cX5_fault 1 0 0 0 0 (some .int)) (f : Nat)  (x0 : Nat) (h : Hp) : Sim X (z_Zi X 0 0) 0 0 0 [(0, rf (xG X) x0)] [] h (f_X5_fault f x0 h) := by
  unfold f_X5_fault
  refine s_aload_n o 0 rfl dX5_fault_0 (q := 1) rfl ?_
  refine s_gi o kf_X5_17 dX5_fault_1 (q := 4) rfl (fun v1_ => ?_)
  exact s_iret o dX5_fault_4
theorem c_X5_fault (G : Gx) (f : Nat) (x0 : Nat) (h : Hp) : z_M z_qi G yX5_fault cX5_fault 1 (some .int) 0 0 0 0 [rf G x0] h (f_X5_fault f x0 h) :=
  z_met (by decide +kernel) (Nat.le_of_ble_eq_true rfl) (fun X hG hn o hnm => by
    subst hG
    show Sim X (z_Zi X 0 0) 0 0 0 [(0, rf (xG X) x0)] [] h _
    exact s_sub [0] rfl (t_X5_fault_0 o f x0 h))
/-! SixMaps.feed(IJ)I -/
def b_X5_feed_34 (f : Nat) (k34 : Nat → Int64 → Int32 → Hp → Option (Int32 × Hp)) (x0 : Nat) (x2 : Int64) (x4 : Int32) (h : Hp) : Option (Int32 × Hp) :=
  if x4 < 0 then
  ((q_gi h x0 5 1).bind fun v1_ =>
  some (v1_, h))
  else
  ((q_gr h x0 5 0).bind fun a2_ =>
  (q_gi h x0 5 1).bind fun v3_ =>
  (q_as h a2_ 8 v3_ (vp_nar .byte ((((x2.toUInt64 >>> (((8 : Int32) * x4).toInt64.toUInt64 &&& Int64.toUInt64 63)).toInt64).toInt32).toInt8.toInt32))).bind fun h4_ =>
  (q_gi h4_ x0 5 1).bind fun v5_ =>
  (q_pi h4_ x0 5 1 (v5_ + (1 : Int32))).bind fun h6_ =>
  lt (x4 + (-1 : Int32)) fun v7_ =>
  k34 x0 x2 v7_ h6_)
def l_X5_feed_34 (f : Nat)  : Nat → Nat → Int64 → Int32 → Hp → Option (Int32 × Hp)
  | 0, _, _, _, _ => none
  | n + 1, x0, x2, x4, h => b_X5_feed_34 f  (l_X5_feed_34 f  n) x0 x2 x4 h
def b_X5_feed_11 (f : Nat)   (h : Hp) : Option (Int32 × Hp) :=
  some ((-1000002 : Int32), h)
def f_X5_feed (f : Nat)  (x0 : Nat) (x1 : Int32) (x2 : Int64) (h : Hp) : Option (Int32 × Hp) :=
  if x1 < (1 : Int32) then
  (b_X5_feed_11 f h)
  else
  (if x1 ≤ (8 : Int32) then
  ((q_gi h x0 5 1).bind fun v1_ =>
  if (v1_ + x1) ≤ (400 : Int32) then
  (lt (x1 - (1 : Int32)) fun v2_ =>
  l_X5_feed_34 f f x0 x2 v2_ h)
  else
  (some ((-1000004 : Int32), h)))
  else
  (b_X5_feed_11 f h))
set_option maxRecDepth 20000 in
theorem t_X5_feed_34 {X : Cx} (o : Ok X RX5 cX5_feed 5 0 0 0 0 (some .int)) (f : Nat) {k34 : Nat → Int64 → Int32 → Hp → Option (Int32 × Hp)} (hk34 : ∀ (x0 : Nat) (x2 : Int64) (x4 : Int32) (h : Hp), Sim X (z_Zi X 0 0) 0 0 34 [(0, rf (xG X) x0), (2, .long x2), (4, .int x4)] [] h (k34 x0 x2 x4 h)) (x0 : Nat) (x2 : Int64) (x4 : Int32) (h : Hp) : Sim X (z_Zi X 0 0) 0 0 34 [(0, rf (xG X) x0), (2, .long x2), (4, .int x4)] [] h (b_X5_feed_34 f k34 x0 x2 x4 h) := by
  unfold b_X5_feed_34
  refine s_iload o 2 rfl dX5_feed_34 (q := 36) rfl ?_
  refine s_if_lt o (tgt := 73) dX5_feed_36 (by decide) (q := 39) rfl ?_ ?_
  · refine s_aload_n o 0 rfl dX5_feed_73 (q := 74) rfl ?_
    refine s_gi o kf_X5_13 dX5_feed_74 (q := 77) rfl (fun v1_ => ?_)
    exact s_iret o dX5_feed_77
  · refine s_aload_n o 0 rfl dX5_feed_39 (q := 40) rfl ?_
    refine s_gr o kf_X5_9 dX5_feed_40 (q := 43) rfl (fun a2_ => ?_)
    refine s_aload_n o 0 rfl dX5_feed_43 (q := 44) rfl ?_
    refine s_gi o kf_X5_13 dX5_feed_44 (q := 47) rfl (fun v3_ => ?_)
    refine s_lload_n o 1 rfl dX5_feed_47 (q := 48) rfl ?_
    refine s_bipush o dX5_feed_48 (v := (8 : Int32)) (by decide) (q := 50) rfl ?_
    refine s_iload o 2 rfl dX5_feed_50 (q := 52) rfl ?_
    refine s_imul o dX5_feed_52 (q := 53) rfl ?_
    refine s_lushr o dX5_feed_53 (q := 54) rfl ?_
    refine s_l2i o dX5_feed_54 (q := 55) rfl ?_
    refine s_i2b o dX5_feed_55 (q := 56) rfl ?_
    refine s_bast o dX5_feed_56 (q := 57) rfl (fun h4_ => ?_)
    refine s_aload_n o 0 rfl dX5_feed_57 (q := 58) rfl ?_
    refine s_dup o rfl dX5_feed_58 (q := 59) rfl ?_
    refine s_gi o kf_X5_13 dX5_feed_59 (q := 62) rfl (fun v5_ => ?_)
    refine s_iconst o dX5_feed_62 (v := (1 : Int32)) (by decide) (q := 63) rfl ?_
    refine s_iadd o dX5_feed_63 (q := 64) rfl ?_
    refine s_pi o kf_X5_13 dX5_feed_64 (q := 67) rfl (fun h6_ => ?_)
    refine s_iinc o 2 rfl (v := (-1 : Int32)) (by decide) [1, 2, 0] (lv' := fun v7_ => [(0, rf (xG X) x0), (2, .long x2), (4, .int v7_)]) (fun _ => rfl) dX5_feed_67 (by decide) (q := 70) rfl (fun v7_ => ?_)
    refine s_goto o (tgt := 34) dX5_feed_70 (by decide) ?_
    exact s_sub [0, 1, 2] rfl (hk34 x0 x2 v7_ h6_)
theorem tl_X5_feed_34 {X : Cx} (o : Ok X RX5 cX5_feed 5 0 0 0 0 (some .int)) (f : Nat)  : ∀ (n : Nat) (x0 : Nat) (x2 : Int64) (x4 : Int32) (h : Hp), Sim X (z_Zi X 0 0) 0 0 34 [(0, rf (xG X) x0), (2, .long x2), (4, .int x4)] [] h (l_X5_feed_34 f n x0 x2 x4 h) := by
  intro n
  induction n with
  | zero => intro x0 x2 x4 h; exact s_none
  | succ n ih => intro x0 x2 x4 h; exact t_X5_feed_34 o f  ih x0 x2 x4 h
set_option maxRecDepth 20000 in
theorem t_X5_feed_11 {X : Cx} (o : Ok X RX5 cX5_feed 5 0 0 0 0 (some .int)) (f : Nat)   (h : Hp) : Sim X (z_Zi X 0 0) 0 0 11 [] [] h (b_X5_feed_11 f h) := by
  unfold b_X5_feed_11
  refine s_ldc o kc_X5_66 dX5_feed_11 (q := 13) rfl ?_
  exact s_iret o dX5_feed_13
set_option maxRecDepth 20000 in
theorem t_X5_feed_0 {X : Cx} (o : Ok X RX5 cX5_feed 5 0 0 0 0 (some .int)) (f : Nat)  (x0 : Nat) (x1 : Int32) (x2 : Int64) (h : Hp) : Sim X (z_Zi X 0 0) 0 0 0 [(0, rf (xG X) x0), (1, .int x1), (2, .long x2)] [] h (f_X5_feed f x0 x1 x2 h) := by
  unfold f_X5_feed
  refine s_iload_n o 1 rfl dX5_feed_0 (q := 1) rfl ?_
  refine s_iconst o dX5_feed_1 (v := (1 : Int32)) (by decide) (q := 2) rfl ?_
  refine s_ic_lt o (tgt := 11) dX5_feed_2 (by decide) (q := 5) rfl ?_ ?_
  · exact s_sub [] rfl (t_X5_feed_11 o f h)
  · refine s_iload_n o 1 rfl dX5_feed_5 (q := 6) rfl ?_
    refine s_bipush o dX5_feed_6 (v := (8 : Int32)) (by decide) (q := 8) rfl ?_
    refine s_ic_le o (tgt := 14) dX5_feed_8 (by decide) (q := 11) rfl ?_ ?_
    · refine s_aload_n o 0 rfl dX5_feed_14 (q := 15) rfl ?_
      refine s_gi o kf_X5_13 dX5_feed_15 (q := 18) rfl (fun v1_ => ?_)
      refine s_iload_n o 1 rfl dX5_feed_18 (q := 19) rfl ?_
      refine s_iadd o dX5_feed_19 (q := 20) rfl ?_
      refine s_sipush o dX5_feed_20 (v := (400 : Int32)) (by decide) (q := 23) rfl ?_
      refine s_ic_le o (tgt := 29) dX5_feed_23 (by decide) (q := 26) rfl ?_ ?_
      · refine s_iload_n o 1 rfl dX5_feed_29 (q := 30) rfl ?_
        refine s_iconst o dX5_feed_30 (v := (1 : Int32)) (by decide) (q := 31) rfl ?_
        refine s_isub o dX5_feed_31 (q := 32) rfl ?_
        refine s_let (fun v2_ => ?_)
        refine s_istore o [1, 2, 3, 0] (lv' := [(0, rf (xG X) x0), (1, .int x1), (2, .long x2), (4, .int v2_)]) rfl dX5_feed_32 (by decide) (q := 34) rfl ?_
        exact s_sub [0, 2, 3] rfl (tl_X5_feed_34 o f f x0 x2 v2_ h)
      · refine s_ldc o kc_X5_67 dX5_feed_26 (q := 28) rfl ?_
        exact s_iret o dX5_feed_28
    · exact s_sub [] rfl (t_X5_feed_11 o f h)
theorem c_X5_feed (G : Gx) (f : Nat) (x0 : Nat) (x1 : Int32) (x2 : Int64) (h : Hp) : z_M z_qi G yX5_feed cX5_feed 5 (some .int) 0 0 0 0 [rf G x0, .int x1, .long x2] h (f_X5_feed f x0 x1 x2 h) :=
  z_met (by decide +kernel) (Nat.le_of_ble_eq_true rfl) (fun X hG hn o hnm => by
    subst hG
    show Sim X (z_Zi X 0 0) 0 0 0 [(0, rf (xG X) x0), (1, .int x1), (2, .long x2)] [] h _
    exact s_sub [0, 1, 2] rfl (t_X5_feed_0 o f x0 x1 x2 h))
/-! SixMaps.forget()I -/
def f_X5_forget (f : Nat)  (x0 : Nat) (h : Hp) : Option (Int32 × Hp) :=
  (q_gr h x0 5 9).bind fun a1_ =>
  (q_gi h a1_ 3 3).bind fun v2_ =>
  (q_gr h x0 5 9).bind fun a3_ =>
  (q_pi h a3_ 3 3 (0 : Int32)).bind fun h4_ =>
  some (v2_, h4_)
set_option maxRecDepth 20000 in
theorem t_X5_forget_0 {X : Cx} (o : Ok X RX5 cX5_forget 2 0 0 0 0 (some .int)) (f : Nat)  (x0 : Nat) (h : Hp) : Sim X (z_Zi X 0 0) 0 0 0 [(0, rf (xG X) x0)] [] h (f_X5_forget f x0 h) := by
  unfold f_X5_forget
  refine s_aload_n o 0 rfl dX5_forget_0 (q := 1) rfl ?_
  refine s_gr o kf_X5_55 dX5_forget_1 (q := 4) rfl (fun a1_ => ?_)
  refine s_gi o kf_X5_82 dX5_forget_4 (q := 7) rfl (fun v2_ => ?_)
  refine s_istore_n o [1, 0] (lv' := [(0, rf (xG X) x0), (1, .int v2_)]) rfl dX5_forget_7 (by decide) (q := 8) rfl ?_
  refine s_aload_n o 0 rfl dX5_forget_8 (q := 9) rfl ?_
  refine s_gr o kf_X5_55 dX5_forget_9 (q := 12) rfl (fun a3_ => ?_)
  refine s_iconst o dX5_forget_12 (v := (0 : Int32)) (by decide) (q := 13) rfl ?_
  refine s_pi o kf_X5_82 dX5_forget_13 (q := 16) rfl (fun h4_ => ?_)
  refine s_iload_n o 1 rfl dX5_forget_16 (q := 17) rfl ?_
  exact s_iret o dX5_forget_17
theorem c_X5_forget (G : Gx) (f : Nat) (x0 : Nat) (h : Hp) : z_M z_qi G yX5_forget cX5_forget 2 (some .int) 0 0 0 0 [rf G x0] h (f_X5_forget f x0 h) :=
  z_met (by decide +kernel) (Nat.le_of_ble_eq_true rfl) (fun X hG hn o hnm => by
    subst hG
    show Sim X (z_Zi X 0 0) 0 0 0 [(0, rf (xG X) x0)] [] h _
    exact s_sub [0] rfl (t_X5_forget_0 o f x0 h))
/-! SixMaps.found(I)I -/
def b_X5_found_96 (f : Nat) (k39 : Nat → Int32 → Int32 → Int32 → Hp → Option (Int32 × Hp)) (k48 : Nat → Int32 → Int32 → Int32 → Int32 → Hp → Option (Int32 × Hp)) (x0 : Nat) (x1 : Int32) (x2 : Int32) (x3 : Int32) (x4 : Int32) (h : Hp) : Option (Int32 × Hp) :=
  lt (x4 + (1 : Int32)) fun v1_ =>
  k48 x0 x1 x2 x3 v1_ h
def b_X5_found_48 (f : Nat) (k39 : Nat → Int32 → Int32 → Int32 → Hp → Option (Int32 × Hp)) (k48 : Nat → Int32 → Int32 → Int32 → Int32 → Hp → Option (Int32 × Hp)) (x0 : Nat) (x1 : Int32) (x2 : Int32) (x3 : Int32) (x4 : Int32) (h : Hp) : Option (Int32 × Hp) :=
  (q_gr h x0 5 3).bind fun a1_ =>
  (q_gi h a1_ 0 4).bind fun v2_ =>
  if v2_ ≤ x4 then
  (lt (x3 + (1 : Int32)) fun v3_ =>
  k39 x0 x1 x2 v3_ h)
  else
  (if ¬ x3 = x1 then
  (lt (x2 + (1 : Int32)) fun v4_ =>
  (q_gr h x0 5 10).bind fun a5_ =>
  q_on h a5_ 1 (
  (f_X1_hear f a5_ x3 ((1 : Int32) <<< (x4 &&& 31)) h).bind fun h7_ =>
  (q_gr h7_ x0 5 10).bind fun a8_ =>
  (q_gi h7_ a8_ 1 12).bind fun v9_ =>
  if ¬ v9_ = (1 : Int32) then
  (b_X5_found_96 f k39 k48 x0 x1 v4_ x3 x4 h7_)
  else
  (some (v4_, h7_))))
  else
  (b_X5_found_96 f k39 k48 x0 x1 x2 x3 x4 h))
def l_X5_found_48 (f : Nat) (k39 : Nat → Int32 → Int32 → Int32 → Hp → Option (Int32 × Hp)) : Nat → Nat → Int32 → Int32 → Int32 → Int32 → Hp → Option (Int32 × Hp)
  | 0, _, _, _, _, _, _ => none
  | n + 1, x0, x1, x2, x3, x4, h => b_X5_found_48 f k39 (l_X5_found_48 f k39 n) x0 x1 x2 x3 x4 h
def b_X5_found_39 (f : Nat) (k39 : Nat → Int32 → Int32 → Int32 → Hp → Option (Int32 × Hp)) (x0 : Nat) (x1 : Int32) (x2 : Int32) (x3 : Int32) (h : Hp) : Option (Int32 × Hp) :=
  if (6 : Int32) ≤ x3 then
  (some ((-1 : Int32), h))
  else
  (l_X5_found_48 f k39 f x0 x1 x2 x3 (0 : Int32) h)
def l_X5_found_39 (f : Nat)  : Nat → Nat → Int32 → Int32 → Int32 → Hp → Option (Int32 × Hp)
  | 0, _, _, _, _, _ => none
  | n + 1, x0, x1, x2, x3, h => b_X5_found_39 f  (l_X5_found_39 f  n) x0 x1 x2 x3 h
def f_X5_found (f : Nat)  (x0 : Nat) (x1 : Int32) (h : Hp) : Option (Int32 × Hp) :=
  bi (f_X5_isBand f x1 h) fun v2_ h1_ =>
  if ¬ v2_ = 0 then
  ((q_gr h1_ x0 5 10).bind fun a3_ =>
  (q_gr h1_ x0 5 3).bind fun a4_ =>
  q_on h1_ a3_ 1 (
  (f_X1_weighOwnAlone f a3_ a4_ x1 h1_).bind fun h6_ =>
  (q_gr h6_ x0 5 10).bind fun a7_ =>
  (q_gi h6_ a7_ 1 12).bind fun v8_ =>
  if ¬ v8_ = (1 : Int32) then
  (l_X5_found_39 f f x0 x1 (0 : Int32) (0 : Int32) h6_)
  else
  (some ((0 : Int32), h6_))))
  else
  (some ((-1000001 : Int32), h1_))
set_option maxRecDepth 20000 in
theorem t_X5_found_96 {X : Cx} (o : Ok X RX5 cX5_found 5 7 154 0 0 (some .int)) (f : Nat) {k39 : Nat → Int32 → Int32 → Int32 → Hp → Option (Int32 × Hp)} (hk39 : ∀ (x0 : Nat) (x1 : Int32) (x2 : Int32) (x3 : Int32) (h : Hp), Sim X (z_Zi X 0 0) 0 0 39 [(0, rf (xG X) x0), (1, .int x1), (2, .int x2), (3, .int x3)] [] h (k39 x0 x1 x2 x3 h)) {k48 : Nat → Int32 → Int32 → Int32 → Int32 → Hp → Option (Int32 × Hp)} (hk48 : ∀ (x0 : Nat) (x1 : Int32) (x2 : Int32) (x3 : Int32) (x4 : Int32) (h : Hp), Sim X (z_Zi X 0 0) 0 0 48 [(0, rf (xG X) x0), (1, .int x1), (2, .int x2), (3, .int x3), (4, .int x4)] [] h (k48 x0 x1 x2 x3 x4 h)) (x0 : Nat) (x1 : Int32) (x2 : Int32) (x3 : Int32) (x4 : Int32) (h : Hp) : Sim X (z_Zi X 0 0) 0 0 96 [(0, rf (xG X) x0), (1, .int x1), (2, .int x2), (3, .int x3), (4, .int x4)] [] h (b_X5_found_96 f k39 k48 x0 x1 x2 x3 x4 h) := by
  unfold b_X5_found_96
  refine s_iinc o 4 rfl (v := (1 : Int32)) (by decide) [1, 2, 3, 4, 0] (lv' := fun v1_ => [(0, rf (xG X) x0), (1, .int x1), (2, .int x2), (3, .int x3), (4, .int v1_)]) (fun _ => rfl) dX5_found_96 (by decide) (q := 99) rfl (fun v1_ => ?_)
  refine s_goto o (tgt := 48) dX5_found_99 (by decide) ?_
  exact s_sub [0, 1, 2, 3, 4] rfl (hk48 x0 x1 x2 x3 v1_ h)
set_option maxRecDepth 20000 in
theorem t_X5_found_48 {X : Cx} (o : Ok X RX5 cX5_found 5 7 154 0 0 (some .int)) (f : Nat) {k39 : Nat → Int32 → Int32 → Int32 → Hp → Option (Int32 × Hp)} (hk39 : ∀ (x0 : Nat) (x1 : Int32) (x2 : Int32) (x3 : Int32) (h : Hp), Sim X (z_Zi X 0 0) 0 0 39 [(0, rf (xG X) x0), (1, .int x1), (2, .int x2), (3, .int x3)] [] h (k39 x0 x1 x2 x3 h)) {k48 : Nat → Int32 → Int32 → Int32 → Int32 → Hp → Option (Int32 × Hp)} (hk48 : ∀ (x0 : Nat) (x1 : Int32) (x2 : Int32) (x3 : Int32) (x4 : Int32) (h : Hp), Sim X (z_Zi X 0 0) 0 0 48 [(0, rf (xG X) x0), (1, .int x1), (2, .int x2), (3, .int x3), (4, .int x4)] [] h (k48 x0 x1 x2 x3 x4 h)) (x0 : Nat) (x1 : Int32) (x2 : Int32) (x3 : Int32) (x4 : Int32) (h : Hp) : Sim X (z_Zi X 0 0) 0 0 48 [(0, rf (xG X) x0), (1, .int x1), (2, .int x2), (3, .int x3), (4, .int x4)] [] h (b_X5_found_48 f k39 k48 x0 x1 x2 x3 x4 h) := by
  unfold b_X5_found_48
  refine s_iload o 4 rfl dX5_found_48 (q := 50) rfl ?_
  refine s_aload_n o 0 rfl dX5_found_50 (q := 51) rfl ?_
  refine s_gr o kf_X5_23 dX5_found_51 (q := 54) rfl (fun a1_ => ?_)
  refine s_gi o kf_X5_75 dX5_found_54 (q := 57) rfl (fun v2_ => ?_)
  refine s_ic_ge o (tgt := 102) dX5_found_57 (by decide) (q := 60) rfl ?_ ?_
  · refine s_iinc o 3 rfl (v := (1 : Int32)) (by decide) [1, 2, 3, 0, 4] (lv' := fun v3_ => [(0, rf (xG X) x0), (1, .int x1), (2, .int x2), (3, .int v3_), (4, .int x4)]) (fun _ => rfl) dX5_found_102 (by decide) (q := 105) rfl (fun v3_ => ?_)
    refine s_goto o (tgt := 39) dX5_found_105 (by decide) ?_
    exact s_sub [0, 1, 2, 3] rfl (hk39 x0 x1 x2 v3_ h)
  · refine s_iload_n o 3 rfl dX5_found_60 (q := 61) rfl ?_
    refine s_iload_n o 1 rfl dX5_found_61 (q := 62) rfl ?_
    refine s_ic_ne o (tgt := 68) dX5_found_62 (by decide) (q := 65) rfl ?_ ?_
    · refine s_iinc o 2 rfl (v := (1 : Int32)) (by decide) [1, 2, 0, 3, 4] (lv' := fun v4_ => [(0, rf (xG X) x0), (1, .int x1), (2, .int v4_), (3, .int x3), (4, .int x4)]) (fun _ => rfl) dX5_found_68 (by decide) (q := 71) rfl (fun v4_ => ?_)
      refine s_aload_n o 0 rfl dX5_found_71 (q := 72) rfl ?_
      refine s_gr o kf_X5_62 dX5_found_72 (q := 75) rfl (fun a5_ => ?_)
      refine s_iload_n o 3 rfl dX5_found_75 (q := 76) rfl ?_
      refine s_iconst o dX5_found_76 (v := (1 : Int32)) (by decide) (q := 77) rfl ?_
      refine s_iload o 4 rfl dX5_found_77 (q := 79) rfl ?_
      refine s_ishl o dX5_found_79 (q := 80) rfl ?_
      refine s_on (fun hk6_ => ?_)
      refine s_callv (fun r0 hr0 => runV o hk6_ cv_X5_211 (c_X1_hear (xG X) f a5_ x3 ((1 : Int32) <<< (x4 &&& 31)) h (xl X) r0 hr0) ⟨Nat.le_of_ble_eq_true rfl, Nat.le_of_ble_eq_true rfl⟩ rfl rfl (Nat.le_of_ble_eq_true rfl) dX5_found_80 ⟨Nat.le_of_ble_eq_true rfl, Nat.le_of_ble_eq_true rfl⟩) (q := 83) rfl (cs' := 0) rfl (sl' := 0) rfl (fun h7_ => ?_)
      refine s_aload_n o 0 rfl dX5_found_83 (q := 84) rfl ?_
      refine s_gr o kf_X5_62 dX5_found_84 (q := 87) rfl (fun a8_ => ?_)
      refine s_gi o kf_X5_165 dX5_found_87 (q := 90) rfl (fun v9_ => ?_)
      refine s_iconst o dX5_found_90 (v := (1 : Int32)) (by decide) (q := 91) rfl ?_
      refine s_ic_ne o (tgt := 96) dX5_found_91 (by decide) (q := 94) rfl ?_ ?_
      · exact s_sub [0, 1, 2, 3, 4] rfl (t_X5_found_96 o f hk39 hk48 x0 x1 v4_ x3 x4 h7_)
      · refine s_iload_n o 2 rfl dX5_found_94 (q := 95) rfl ?_
        exact s_iret o dX5_found_95
    · refine s_goto o (tgt := 96) dX5_found_65 (by decide) ?_
      exact s_sub [0, 1, 2, 3, 4] rfl (t_X5_found_96 o f hk39 hk48 x0 x1 x2 x3 x4 h)
theorem tl_X5_found_48 {X : Cx} (o : Ok X RX5 cX5_found 5 7 154 0 0 (some .int)) (f : Nat) {k39 : Nat → Int32 → Int32 → Int32 → Hp → Option (Int32 × Hp)} (hk39 : ∀ (x0 : Nat) (x1 : Int32) (x2 : Int32) (x3 : Int32) (h : Hp), Sim X (z_Zi X 0 0) 0 0 39 [(0, rf (xG X) x0), (1, .int x1), (2, .int x2), (3, .int x3)] [] h (k39 x0 x1 x2 x3 h)) : ∀ (n : Nat) (x0 : Nat) (x1 : Int32) (x2 : Int32) (x3 : Int32) (x4 : Int32) (h : Hp), Sim X (z_Zi X 0 0) 0 0 48 [(0, rf (xG X) x0), (1, .int x1), (2, .int x2), (3, .int x3), (4, .int x4)] [] h (l_X5_found_48 f k39 n x0 x1 x2 x3 x4 h) := by
  intro n
  induction n with
  | zero => intro x0 x1 x2 x3 x4 h; exact s_none
  | succ n ih => intro x0 x1 x2 x3 x4 h; exact t_X5_found_48 o f hk39 ih x0 x1 x2 x3 x4 h
set_option maxRecDepth 20000 in
theorem t_X5_found_39 {X : Cx} (o : Ok X RX5 cX5_found 5 7 154 0 0 (some .int)) (f : Nat) {k39 : Nat → Int32 → Int32 → Int32 → Hp → Option (Int32 × Hp)} (hk39 : ∀ (x0 : Nat) (x1 : Int32) (x2 : Int32) (x3 : Int32) (h : Hp), Sim X (z_Zi X 0 0) 0 0 39 [(0, rf (xG X) x0), (1, .int x1), (2, .int x2), (3, .int x3)] [] h (k39 x0 x1 x2 x3 h)) (x0 : Nat) (x1 : Int32) (x2 : Int32) (x3 : Int32) (h : Hp) : Sim X (z_Zi X 0 0) 0 0 39 [(0, rf (xG X) x0), (1, .int x1), (2, .int x2), (3, .int x3)] [] h (b_X5_found_39 f k39 x0 x1 x2 x3 h) := by
  unfold b_X5_found_39
  refine s_iload_n o 3 rfl dX5_found_39 (q := 40) rfl ?_
  refine s_bipush o dX5_found_40 (v := (6 : Int32)) (by decide) (q := 42) rfl ?_
  refine s_ic_ge o (tgt := 108) dX5_found_42 (by decide) (q := 45) rfl ?_ ?_
  · refine s_iconst o dX5_found_108 (v := (-1 : Int32)) (by decide) (q := 109) rfl ?_
    exact s_iret o dX5_found_109
  · refine s_iconst o dX5_found_45 (v := (0 : Int32)) (by decide) (q := 46) rfl ?_
    refine s_istore o [1, 2, 3, 4, 0] (lv' := [(0, rf (xG X) x0), (1, .int x1), (2, .int x2), (3, .int x3), (4, .int (0 : Int32))]) rfl dX5_found_46 (by decide) (q := 48) rfl ?_
    exact s_sub [0, 1, 2, 3, 4] rfl (tl_X5_found_48 o f hk39 f x0 x1 x2 x3 (0 : Int32) h)
theorem tl_X5_found_39 {X : Cx} (o : Ok X RX5 cX5_found 5 7 154 0 0 (some .int)) (f : Nat)  : ∀ (n : Nat) (x0 : Nat) (x1 : Int32) (x2 : Int32) (x3 : Int32) (h : Hp), Sim X (z_Zi X 0 0) 0 0 39 [(0, rf (xG X) x0), (1, .int x1), (2, .int x2), (3, .int x3)] [] h (l_X5_found_39 f n x0 x1 x2 x3 h) := by
  intro n
  induction n with
  | zero => intro x0 x1 x2 x3 h; exact s_none
  | succ n ih => intro x0 x1 x2 x3 h; exact t_X5_found_39 o f  ih x0 x1 x2 x3 h
set_option maxRecDepth 20000 in
theorem t_X5_found_0 {X : Cx} (o : Ok X RX5 cX5_found 5 7 154 0 0 (some .int)) (f : Nat)  (x0 : Nat) (x1 : Int32) (h : Hp) : Sim X (z_Zi X 0 0) 0 0 0 [(0, rf (xG X) x0), (1, .int x1)] [] h (f_X5_found f x0 x1 h) := by
  unfold f_X5_found
  refine s_iload_n o 1 rfl dX5_found_0 (q := 1) rfl ?_
  refine s_bi (fun r0 hr0 => runS o cs_X5_124 (c_X5_isBand (xG X) f x1 h (xl X) r0 hr0) ⟨Nat.le_of_ble_eq_true rfl, Nat.le_of_ble_eq_true rfl⟩ rfl rfl (Nat.le_of_ble_eq_true rfl) dX5_found_1 ⟨Nat.le_of_ble_eq_true rfl, Nat.le_of_ble_eq_true rfl⟩) (q := 4) rfl (cs' := 0) rfl (sl' := 0) rfl (fun v2_ h1_ => ?_)
  refine s_if_ne o (tgt := 10) dX5_found_4 (by decide) (q := 7) rfl ?_ ?_
  · refine s_aload_n o 0 rfl dX5_found_10 (q := 11) rfl ?_
    refine s_gr o kf_X5_62 dX5_found_11 (q := 14) rfl (fun a3_ => ?_)
    refine s_aload_n o 0 rfl dX5_found_14 (q := 15) rfl ?_
    refine s_gr o kf_X5_23 dX5_found_15 (q := 18) rfl (fun a4_ => ?_)
    refine s_iload_n o 1 rfl dX5_found_18 (q := 19) rfl ?_
    refine s_on (fun hk5_ => ?_)
    refine s_callv (fun r0 hr0 => runV o hk5_ cv_X5_207 (c_X1_weighOwnAlone (xG X) f a3_ a4_ x1 h1_ (xl X) r0 hr0) ⟨Nat.le_of_ble_eq_true rfl, Nat.le_of_ble_eq_true rfl⟩ rfl rfl (Nat.le_of_ble_eq_true rfl) dX5_found_19 ⟨Nat.le_of_ble_eq_true rfl, Nat.le_of_ble_eq_true rfl⟩) (q := 22) rfl (cs' := 0) rfl (sl' := 0) rfl (fun h6_ => ?_)
    refine s_aload_n o 0 rfl dX5_found_22 (q := 23) rfl ?_
    refine s_gr o kf_X5_62 dX5_found_23 (q := 26) rfl (fun a7_ => ?_)
    refine s_gi o kf_X5_165 dX5_found_26 (q := 29) rfl (fun v8_ => ?_)
    refine s_iconst o dX5_found_29 (v := (1 : Int32)) (by decide) (q := 30) rfl ?_
    refine s_ic_ne o (tgt := 35) dX5_found_30 (by decide) (q := 33) rfl ?_ ?_
    · refine s_iconst o dX5_found_35 (v := (0 : Int32)) (by decide) (q := 36) rfl ?_
      refine s_istore_n o [1, 2, 0] (lv' := [(0, rf (xG X) x0), (1, .int x1), (2, .int (0 : Int32))]) rfl dX5_found_36 (by decide) (q := 37) rfl ?_
      refine s_iconst o dX5_found_37 (v := (0 : Int32)) (by decide) (q := 38) rfl ?_
      refine s_istore_n o [1, 2, 3, 0] (lv' := [(0, rf (xG X) x0), (1, .int x1), (2, .int (0 : Int32)), (3, .int (0 : Int32))]) rfl dX5_found_38 (by decide) (q := 39) rfl ?_
      exact s_sub [0, 1, 2, 3] rfl (tl_X5_found_39 o f f x0 x1 (0 : Int32) (0 : Int32) h6_)
    · refine s_iconst o dX5_found_33 (v := (0 : Int32)) (by decide) (q := 34) rfl ?_
      exact s_iret o dX5_found_34
  · refine s_ldc o kc_X5_116 dX5_found_7 (q := 9) rfl ?_
    exact s_iret o dX5_found_9
theorem c_X5_found (G : Gx) (f : Nat) (x0 : Nat) (x1 : Int32) (h : Hp) : z_M z_qi G yX5_found cX5_found 5 (some .int) 7 154 0 0 [rf G x0, .int x1] h (f_X5_found f x0 x1 h) :=
  z_met (by decide +kernel) (Nat.le_of_ble_eq_true rfl) (fun X hG hn o hnm => by
    subst hG
    show Sim X (z_Zi X 0 0) 0 0 0 [(0, rf (xG X) x0), (1, .int x1)] [] h _
    exact s_sub [0, 1] rfl (t_X5_found_0 o f x0 x1 h))
/-! SixMaps.goBack(I)I -/
def b_X5_goBack_9 (f : Nat)   (h : Hp) : Option (Int32 × Hp) :=
  some ((-1000001 : Int32), h)
def f_X5_goBack (f : Nat)  (x0 : Nat) (x1 : Int32) (h : Hp) : Option (Int32 × Hp) :=
  if x1 < 0 then
  (b_X5_goBack_9 f h)
  else
  (if x1 < (2 : Int32) then
  ((q_gr h x0 5 8).bind fun a1_ =>
  (q_ai h a1_ 10 x1).bind fun v2_ =>
  if ¬ v2_ = 0 then
  ((q_gr h x0 5 6).bind fun a3_ =>
  (q_gr h x0 5 7).bind fun a4_ =>
  (q_ar h a4_ x1).bind fun a5_ =>
  q_on h a3_ 4 (
  (f_X4_copyFrom f a3_ a5_ h).bind fun h7_ =>
  some ((1 : Int32), h7_)))
  else
  (some ((-1000003 : Int32), h)))
  else
  (b_X5_goBack_9 f h))
set_option maxRecDepth 20000 in
theorem t_X5_goBack_9 {X : Cx} (o : Ok X RX5 cX5_goBack 2 2 39 0 0 (some .int)) (f : Nat)   (h : Hp) : Sim X (z_Zi X 0 0) 0 0 9 [] [] h (b_X5_goBack_9 f h) := by
  unfold b_X5_goBack_9
  refine s_ldc o kc_X5_116 dX5_goBack_9 (q := 11) rfl ?_
  exact s_iret o dX5_goBack_11
set_option maxRecDepth 20000 in
theorem t_X5_goBack_0 {X : Cx} (o : Ok X RX5 cX5_goBack 2 2 39 0 0 (some .int)) (f : Nat)  (x0 : Nat) (x1 : Int32) (h : Hp) : Sim X (z_Zi X 0 0) 0 0 0 [(0, rf (xG X) x0), (1, .int x1)] [] h (f_X5_goBack f x0 x1 h) := by
  unfold f_X5_goBack
  refine s_iload_n o 1 rfl dX5_goBack_0 (q := 1) rfl ?_
  refine s_if_lt o (tgt := 9) dX5_goBack_1 (by decide) (q := 4) rfl ?_ ?_
  · exact s_sub [] rfl (t_X5_goBack_9 o f h)
  · refine s_iload_n o 1 rfl dX5_goBack_4 (q := 5) rfl ?_
    refine s_iconst o dX5_goBack_5 (v := (2 : Int32)) (by decide) (q := 6) rfl ?_
    refine s_ic_lt o (tgt := 12) dX5_goBack_6 (by decide) (q := 9) rfl ?_ ?_
    · refine s_aload_n o 0 rfl dX5_goBack_12 (q := 13) rfl ?_
      refine s_gr o kf_X5_48 dX5_goBack_13 (q := 16) rfl (fun a1_ => ?_)
      refine s_iload_n o 1 rfl dX5_goBack_16 (q := 17) rfl ?_
      refine s_zald o dX5_goBack_17 (q := 18) rfl (fun v2_ => ?_)
      refine s_if_ne o (tgt := 24) dX5_goBack_18 (by decide) (q := 21) rfl ?_ ?_
      · refine s_aload_n o 0 rfl dX5_goBack_24 (q := 25) rfl ?_
        refine s_gr o kf_X5_40 dX5_goBack_25 (q := 28) rfl (fun a3_ => ?_)
        refine s_aload_n o 0 rfl dX5_goBack_28 (q := 29) rfl ?_
        refine s_gr o kf_X5_44 dX5_goBack_29 (q := 32) rfl (fun a4_ => ?_)
        refine s_iload_n o 1 rfl dX5_goBack_32 (q := 33) rfl ?_
        refine s_aald o dX5_goBack_33 (q := 34) rfl (fun a5_ => ?_)
        refine s_on (fun hk6_ => ?_)
        refine s_callv (fun r0 hr0 => runV o hk6_ cv_X5_246 (c_X4_copyFrom (xG X) f a3_ a5_ h (xl X) r0 hr0) ⟨Nat.le_of_ble_eq_true rfl, Nat.le_of_ble_eq_true rfl⟩ rfl rfl (Nat.le_of_ble_eq_true rfl) dX5_goBack_34 ⟨Nat.le_of_ble_eq_true rfl, Nat.le_of_ble_eq_true rfl⟩) (q := 37) rfl (cs' := 0) rfl (sl' := 0) rfl (fun h7_ => ?_)
        refine s_iconst o dX5_goBack_37 (v := (1 : Int32)) (by decide) (q := 38) rfl ?_
        exact s_iret o dX5_goBack_38
      · refine s_ldc o kc_X5_133 dX5_goBack_21 (q := 23) rfl ?_
        exact s_iret o dX5_goBack_23
    · exact s_sub [] rfl (t_X5_goBack_9 o f h)
theorem c_X5_goBack (G : Gx) (f : Nat) (x0 : Nat) (x1 : Int32) (h : Hp) : z_M z_qi G yX5_goBack cX5_goBack 2 (some .int) 2 39 0 0 [rf G x0, .int x1] h (f_X5_goBack f x0 x1 h) :=
  z_met (by decide +kernel) (Nat.le_of_ble_eq_true rfl) (fun X hG hn o hnm => by
    subst hG
    show Sim X (z_Zi X 0 0) 0 0 0 [(0, rf (xG X) x0), (1, .int x1)] [] h _
    exact s_sub [0, 1] rfl (t_X5_goBack_0 o f x0 x1 h))
/-! SixMaps.tradeByDraws(I)V -/
def b_X5_tradeByDraws_17 (f : Nat)  (x0 : Nat) (x1 : Int32) (x2 : Int32) (h : Hp) : Option (Hp) :=
  (q_gr h x0 5 6).bind fun a1_ =>
  (q_gr h x0 5 3).bind fun a2_ =>
  (q_gi h a2_ 0 4).bind fun v3_ =>
  q_on h a1_ 4 (
  bi (f_X4_draw f a1_ v3_ h) fun v6_ h5_ =>
  (q_gr h5_ x0 5 6).bind fun a7_ =>
  (q_gr h5_ x0 5 3).bind fun a8_ =>
  (q_gi h5_ a8_ 0 4).bind fun v9_ =>
  q_on h5_ a7_ 4 (
  bi (f_X4_draw f a7_ v9_ h5_) fun v12_ h11_ =>
  (q_gr h11_ x0 5 6).bind fun a13_ =>
  q_on h11_ a13_ 4 (
  (f_X4_learn f a13_ x2 x1 v6_ h11_).bind fun h15_ =>
  (q_gr h15_ x0 5 6).bind fun a16_ =>
  q_on h15_ a16_ 4 (
  (f_X4_learn f a16_ x1 x2 v12_ h15_).bind fun h18_ =>
  some h18_))))
def f_X5_tradeByDraws (f : Nat)  (x0 : Nat) (x1 : Int32) (h : Hp) : Option (Hp) :=
  (q_gr h x0 5 6).bind fun a1_ =>
  q_on h a1_ 4 (
  bi (f_X4_draw f a1_ (5 : Int32) h) fun v4_ h3_ =>
  if v4_ < x1 then
  (b_X5_tradeByDraws_17 f x0 x1 v4_ h3_)
  else
  (lt (v4_ + (1 : Int32)) fun v5_ =>
  b_X5_tradeByDraws_17 f x0 x1 v5_ h3_))
set_option maxRecDepth 20000 in
theorem t_X5_tradeByDraws_17 {X : Cx} (o : Ok X RX5 cX5_tradeByDraws 5 1 23 0 0 none) (f : Nat)  (x0 : Nat) (x1 : Int32) (x2 : Int32) (h : Hp) : Sim X (z_Zv X 0 0) 0 0 17 [(0, rf (xG X) x0), (1, .int x1), (2, .int x2)] [] h (b_X5_tradeByDraws_17 f x0 x1 x2 h) := by
  unfold b_X5_tradeByDraws_17
  refine s_aload_n o 0 rfl dX5_tradeByDraws_17 (q := 18) rfl ?_
  refine s_gr o kf_X5_40 dX5_tradeByDraws_18 (q := 21) rfl (fun a1_ => ?_)
  refine s_aload_n o 0 rfl dX5_tradeByDraws_21 (q := 22) rfl ?_
  refine s_gr o kf_X5_23 dX5_tradeByDraws_22 (q := 25) rfl (fun a2_ => ?_)
  refine s_gi o kf_X5_75 dX5_tradeByDraws_25 (q := 28) rfl (fun v3_ => ?_)
  refine s_on (fun hk4_ => ?_)
  refine s_bi (fun r0 hr0 => runV o hk4_ cv_X5_265 (c_X4_draw (xG X) f a1_ v3_ h (xl X) r0 hr0) ⟨Nat.le_of_ble_eq_true rfl, Nat.le_of_ble_eq_true rfl⟩ rfl rfl (Nat.le_of_ble_eq_true rfl) dX5_tradeByDraws_28 ⟨Nat.le_of_ble_eq_true rfl, Nat.le_of_ble_eq_true rfl⟩) (q := 31) rfl (cs' := 0) rfl (sl' := 0) rfl (fun v6_ h5_ => ?_)
  refine s_istore_n o [1, 2, 3, 0] (lv' := [(0, rf (xG X) x0), (1, .int x1), (2, .int x2), (3, .int v6_)]) rfl dX5_tradeByDraws_31 (by decide) (q := 32) rfl ?_
  refine s_aload_n o 0 rfl dX5_tradeByDraws_32 (q := 33) rfl ?_
  refine s_gr o kf_X5_40 dX5_tradeByDraws_33 (q := 36) rfl (fun a7_ => ?_)
  refine s_aload_n o 0 rfl dX5_tradeByDraws_36 (q := 37) rfl ?_
  refine s_gr o kf_X5_23 dX5_tradeByDraws_37 (q := 40) rfl (fun a8_ => ?_)
  refine s_gi o kf_X5_75 dX5_tradeByDraws_40 (q := 43) rfl (fun v9_ => ?_)
  refine s_on (fun hk10_ => ?_)
  refine s_bi (fun r0 hr0 => runV o hk10_ cv_X5_265 (c_X4_draw (xG X) f a7_ v9_ h5_ (xl X) r0 hr0) ⟨Nat.le_of_ble_eq_true rfl, Nat.le_of_ble_eq_true rfl⟩ rfl rfl (Nat.le_of_ble_eq_true rfl) dX5_tradeByDraws_43 ⟨Nat.le_of_ble_eq_true rfl, Nat.le_of_ble_eq_true rfl⟩) (q := 46) rfl (cs' := 0) rfl (sl' := 0) rfl (fun v12_ h11_ => ?_)
  refine s_istore o [1, 2, 3, 4, 0] (lv' := [(0, rf (xG X) x0), (1, .int x1), (2, .int x2), (3, .int v6_), (4, .int v12_)]) rfl dX5_tradeByDraws_46 (by decide) (q := 48) rfl ?_
  refine s_aload_n o 0 rfl dX5_tradeByDraws_48 (q := 49) rfl ?_
  refine s_gr o kf_X5_40 dX5_tradeByDraws_49 (q := 52) rfl (fun a13_ => ?_)
  refine s_iload_n o 2 rfl dX5_tradeByDraws_52 (q := 53) rfl ?_
  refine s_iload_n o 1 rfl dX5_tradeByDraws_53 (q := 54) rfl ?_
  refine s_iload_n o 3 rfl dX5_tradeByDraws_54 (q := 55) rfl ?_
  refine s_on (fun hk14_ => ?_)
  refine s_callv (fun r0 hr0 => runV o hk14_ cv_X5_145 (c_X4_learn (xG X) f a13_ x2 x1 v6_ h11_ (xl X) r0 hr0) ⟨Nat.le_of_ble_eq_true rfl, Nat.le_of_ble_eq_true rfl⟩ rfl rfl (Nat.le_of_ble_eq_true rfl) dX5_tradeByDraws_55 ⟨Nat.le_of_ble_eq_true rfl, Nat.le_of_ble_eq_true rfl⟩) (q := 58) rfl (cs' := 0) rfl (sl' := 0) rfl (fun h15_ => ?_)
  refine s_aload_n o 0 rfl dX5_tradeByDraws_58 (q := 59) rfl ?_
  refine s_gr o kf_X5_40 dX5_tradeByDraws_59 (q := 62) rfl (fun a16_ => ?_)
  refine s_iload_n o 1 rfl dX5_tradeByDraws_62 (q := 63) rfl ?_
  refine s_iload_n o 2 rfl dX5_tradeByDraws_63 (q := 64) rfl ?_
  refine s_iload o 4 rfl dX5_tradeByDraws_64 (q := 66) rfl ?_
  refine s_on (fun hk17_ => ?_)
  refine s_callv (fun r0 hr0 => runV o hk17_ cv_X5_145 (c_X4_learn (xG X) f a16_ x1 x2 v12_ h15_ (xl X) r0 hr0) ⟨Nat.le_of_ble_eq_true rfl, Nat.le_of_ble_eq_true rfl⟩ rfl rfl (Nat.le_of_ble_eq_true rfl) dX5_tradeByDraws_66 ⟨Nat.le_of_ble_eq_true rfl, Nat.le_of_ble_eq_true rfl⟩) (q := 69) rfl (cs' := 0) rfl (sl' := 0) rfl (fun h18_ => ?_)
  exact s_vret o dX5_tradeByDraws_69
set_option maxRecDepth 20000 in
theorem t_X5_tradeByDraws_0 {X : Cx} (o : Ok X RX5 cX5_tradeByDraws 5 1 23 0 0 none) (f : Nat)  (x0 : Nat) (x1 : Int32) (h : Hp) : Sim X (z_Zv X 0 0) 0 0 0 [(0, rf (xG X) x0), (1, .int x1)] [] h (f_X5_tradeByDraws f x0 x1 h) := by
  unfold f_X5_tradeByDraws
  refine s_aload_n o 0 rfl dX5_tradeByDraws_0 (q := 1) rfl ?_
  refine s_gr o kf_X5_40 dX5_tradeByDraws_1 (q := 4) rfl (fun a1_ => ?_)
  refine s_iconst o dX5_tradeByDraws_4 (v := (5 : Int32)) (by decide) (q := 5) rfl ?_
  refine s_on (fun hk2_ => ?_)
  refine s_bi (fun r0 hr0 => runV o hk2_ cv_X5_265 (c_X4_draw (xG X) f a1_ (5 : Int32) h (xl X) r0 hr0) ⟨Nat.le_of_ble_eq_true rfl, Nat.le_of_ble_eq_true rfl⟩ rfl rfl (Nat.le_of_ble_eq_true rfl) dX5_tradeByDraws_5 ⟨Nat.le_of_ble_eq_true rfl, Nat.le_of_ble_eq_true rfl⟩) (q := 8) rfl (cs' := 0) rfl (sl' := 0) rfl (fun v4_ h3_ => ?_)
  refine s_istore_n o [1, 2, 0] (lv' := [(0, rf (xG X) x0), (1, .int x1), (2, .int v4_)]) rfl dX5_tradeByDraws_8 (by decide) (q := 9) rfl ?_
  refine s_iload_n o 2 rfl dX5_tradeByDraws_9 (q := 10) rfl ?_
  refine s_iload_n o 1 rfl dX5_tradeByDraws_10 (q := 11) rfl ?_
  refine s_ic_lt o (tgt := 17) dX5_tradeByDraws_11 (by decide) (q := 14) rfl ?_ ?_
  · exact s_sub [0, 1, 2] rfl (t_X5_tradeByDraws_17 o f x0 x1 v4_ h3_)
  · refine s_iinc o 2 rfl (v := (1 : Int32)) (by decide) [1, 2, 0] (lv' := fun v5_ => [(0, rf (xG X) x0), (1, .int x1), (2, .int v5_)]) (fun _ => rfl) dX5_tradeByDraws_14 (by decide) (q := 17) rfl (fun v5_ => ?_)
    exact s_sub [0, 1, 2] rfl (t_X5_tradeByDraws_17 o f x0 x1 v5_ h3_)
theorem c_X5_tradeByDraws (G : Gx) (f : Nat) (x0 : Nat) (x1 : Int32) (h : Hp) : z_M z_qv G yX5_tradeByDraws cX5_tradeByDraws 5 none 1 23 0 0 [rf G x0, .int x1] h (f_X5_tradeByDraws f x0 x1 h) :=
  z_met (by decide +kernel) (Nat.le_of_ble_eq_true rfl) (fun X hG hn o hnm => by
    subst hG
    show Sim X (z_Zv X 0 0) 0 0 0 [(0, rf (xG X) x0), (1, .int x1)] [] h _
    exact s_sub [0, 1] rfl (t_X5_tradeByDraws_0 o f x0 x1 h))
/-! SixMaps.takeTurn(I)V -/
def b_X5_takeTurn_85 (f : Nat)   (h : Hp) : Option (Hp) :=
  some h
def b_X5_takeTurn_80 (f : Nat)  (x0 : Nat) (x1 : Int32) (h : Hp) : Option (Hp) :=
  q_on h x0 5 (
  (f_X5_tradeByDraws f x0 x1 h).bind fun h2_ =>
  b_X5_takeTurn_85 f h2_)
def f_X5_takeTurn (f : Nat)  (x0 : Nat) (x1 : Int32) (h : Hp) : Option (Hp) :=
  (q_gr h x0 5 10).bind fun a1_ =>
  (q_gr h x0 5 3).bind fun a2_ =>
  (q_gr h x0 5 6).bind fun a3_ =>
  q_on h a1_ 1 (
  (f_X1_weigh f a1_ a2_ a3_ x1 h).bind fun h5_ =>
  (q_gr h5_ x0 5 10).bind fun a6_ =>
  q_on h5_ a6_ 1 (
  (f_X1_choosePlace f a6_ h5_).bind fun h8_ =>
  (q_gr h8_ x0 5 10).bind fun a9_ =>
  (q_gi h8_ a9_ 1 14).bind fun v10_ =>
  if v10_ = (-1 : Int32) then
  (b_X5_takeTurn_80 f x0 x1 h8_)
  else
  ((q_gr h8_ x0 5 10).bind fun a11_ =>
  q_on h8_ a11_ 1 (
  bi (f_X1_worth f a11_ h8_) fun v14_ h13_ =>
  if v14_ ≤ 0 then
  (b_X5_takeTurn_80 f x0 x1 h13_)
  else
  ((q_gr h13_ x0 5 10).bind fun a15_ =>
  (q_gr h13_ x0 5 10).bind fun a16_ =>
  (q_gi h13_ a16_ 1 14).bind fun v17_ =>
  q_on h13_ a15_ 1 (
  bi (f_X1_placeX f a15_ v17_ h13_) fun v20_ h19_ =>
  (q_gr h19_ x0 5 10).bind fun a21_ =>
  (q_gr h19_ x0 5 10).bind fun a22_ =>
  (q_gi h19_ a22_ 1 14).bind fun v23_ =>
  q_on h19_ a21_ 1 (
  bi (f_X1_placeY f a21_ v23_ h19_) fun v26_ h25_ =>
  q_on h25_ x0 5 (
  (f_X5_digAt f x0 x1 v20_ v26_ h25_).bind fun h28_ =>
  b_X5_takeTurn_85 f h28_))))))))
set_option maxRecDepth 20000 in
theorem t_X5_takeTurn_85 {X : Cx} (o : Ok X RX5 cX5_takeTurn 2 6 133 0 0 none) (f : Nat)   (h : Hp) : Sim X (z_Zv X 0 0) 0 0 85 [] [] h (b_X5_takeTurn_85 f h) := by
  unfold b_X5_takeTurn_85
  exact s_vret o dX5_takeTurn_85
set_option maxRecDepth 20000 in
theorem t_X5_takeTurn_80 {X : Cx} (o : Ok X RX5 cX5_takeTurn 2 6 133 0 0 none) (f : Nat)  (x0 : Nat) (x1 : Int32) (h : Hp) : Sim X (z_Zv X 0 0) 0 0 80 [(0, rf (xG X) x0), (1, .int x1)] [] h (b_X5_takeTurn_80 f x0 x1 h) := by
  unfold b_X5_takeTurn_80
  refine s_aload_n o 0 rfl dX5_takeTurn_80 (q := 81) rfl ?_
  refine s_iload_n o 1 rfl dX5_takeTurn_81 (q := 82) rfl ?_
  refine s_on (fun hk1_ => ?_)
  refine s_callv (fun r0 hr0 => runV o hk1_ cv_X5_262 (c_X5_tradeByDraws (xG X) f x0 x1 h (xl X) r0 hr0) ⟨Nat.le_of_ble_eq_true rfl, Nat.le_of_ble_eq_true rfl⟩ rfl rfl (Nat.le_of_ble_eq_true rfl) dX5_takeTurn_82 ⟨Nat.le_of_ble_eq_true rfl, Nat.le_of_ble_eq_true rfl⟩) (q := 85) rfl (cs' := 0) rfl (sl' := 0) rfl (fun h2_ => ?_)
  exact s_sub [] rfl (t_X5_takeTurn_85 o f h2_)
set_option maxRecDepth 20000 in
theorem t_X5_takeTurn_0 {X : Cx} (o : Ok X RX5 cX5_takeTurn 2 6 133 0 0 none) (f : Nat)  (x0 : Nat) (x1 : Int32) (h : Hp) : Sim X (z_Zv X 0 0) 0 0 0 [(0, rf (xG X) x0), (1, .int x1)] [] h (f_X5_takeTurn f x0 x1 h) := by
  unfold f_X5_takeTurn
  refine s_aload_n o 0 rfl dX5_takeTurn_0 (q := 1) rfl ?_
  refine s_gr o kf_X5_62 dX5_takeTurn_1 (q := 4) rfl (fun a1_ => ?_)
  refine s_aload_n o 0 rfl dX5_takeTurn_4 (q := 5) rfl ?_
  refine s_gr o kf_X5_23 dX5_takeTurn_5 (q := 8) rfl (fun a2_ => ?_)
  refine s_aload_n o 0 rfl dX5_takeTurn_8 (q := 9) rfl ?_
  refine s_gr o kf_X5_40 dX5_takeTurn_9 (q := 12) rfl (fun a3_ => ?_)
  refine s_iload_n o 1 rfl dX5_takeTurn_12 (q := 13) rfl ?_
  refine s_on (fun hk4_ => ?_)
  refine s_callv (fun r0 hr0 => runV o hk4_ cv_X5_161 (c_X1_weigh (xG X) f a1_ a2_ a3_ x1 h (xl X) r0 hr0) ⟨Nat.le_of_ble_eq_true rfl, Nat.le_of_ble_eq_true rfl⟩ rfl rfl (Nat.le_of_ble_eq_true rfl) dX5_takeTurn_13 ⟨Nat.le_of_ble_eq_true rfl, Nat.le_of_ble_eq_true rfl⟩) (q := 16) rfl (cs' := 0) rfl (sl' := 0) rfl (fun h5_ => ?_)
  refine s_aload_n o 0 rfl dX5_takeTurn_16 (q := 17) rfl ?_
  refine s_gr o kf_X5_62 dX5_takeTurn_17 (q := 20) rfl (fun a6_ => ?_)
  refine s_on (fun hk7_ => ?_)
  refine s_callv (fun r0 hr0 => runV o hk7_ cv_X5_182 (c_X1_choosePlace (xG X) f a6_ h5_ (xl X) r0 hr0) ⟨Nat.le_of_ble_eq_true rfl, Nat.le_of_ble_eq_true rfl⟩ rfl rfl (Nat.le_of_ble_eq_true rfl) dX5_takeTurn_20 ⟨Nat.le_of_ble_eq_true rfl, Nat.le_of_ble_eq_true rfl⟩) (q := 23) rfl (cs' := 0) rfl (sl' := 0) rfl (fun h8_ => ?_)
  refine s_aload_n o 0 rfl dX5_takeTurn_23 (q := 24) rfl ?_
  refine s_gr o kf_X5_62 dX5_takeTurn_24 (q := 27) rfl (fun a9_ => ?_)
  refine s_gi o kf_X5_185 dX5_takeTurn_27 (q := 30) rfl (fun v10_ => ?_)
  refine s_iconst o dX5_takeTurn_30 (v := (-1 : Int32)) (by decide) (q := 31) rfl ?_
  refine s_ic_eq o (tgt := 80) dX5_takeTurn_31 (by decide) (q := 34) rfl ?_ ?_
  · exact s_sub [0, 1] rfl (t_X5_takeTurn_80 o f x0 x1 h8_)
  · refine s_aload_n o 0 rfl dX5_takeTurn_34 (q := 35) rfl ?_
    refine s_gr o kf_X5_62 dX5_takeTurn_35 (q := 38) rfl (fun a11_ => ?_)
    refine s_on (fun hk12_ => ?_)
    refine s_bi (fun r0 hr0 => runV o hk12_ cv_X5_197 (c_X1_worth (xG X) f a11_ h8_ (xl X) r0 hr0) ⟨Nat.le_of_ble_eq_true rfl, Nat.le_of_ble_eq_true rfl⟩ rfl rfl (Nat.le_of_ble_eq_true rfl) dX5_takeTurn_38 ⟨Nat.le_of_ble_eq_true rfl, Nat.le_of_ble_eq_true rfl⟩) (q := 41) rfl (cs' := 0) rfl (sl' := 0) rfl (fun v14_ h13_ => ?_)
    refine s_if_le o (tgt := 80) dX5_takeTurn_41 (by decide) (q := 44) rfl ?_ ?_
    · exact s_sub [0, 1] rfl (t_X5_takeTurn_80 o f x0 x1 h13_)
    · refine s_aload_n o 0 rfl dX5_takeTurn_44 (q := 45) rfl ?_
      refine s_iload_n o 1 rfl dX5_takeTurn_45 (q := 46) rfl ?_
      refine s_aload_n o 0 rfl dX5_takeTurn_46 (q := 47) rfl ?_
      refine s_gr o kf_X5_62 dX5_takeTurn_47 (q := 50) rfl (fun a15_ => ?_)
      refine s_aload_n o 0 rfl dX5_takeTurn_50 (q := 51) rfl ?_
      refine s_gr o kf_X5_62 dX5_takeTurn_51 (q := 54) rfl (fun a16_ => ?_)
      refine s_gi o kf_X5_185 dX5_takeTurn_54 (q := 57) rfl (fun v17_ => ?_)
      refine s_on (fun hk18_ => ?_)
      refine s_bi (fun r0 hr0 => runV o hk18_ cv_X5_188 (c_X1_placeX (xG X) f a15_ v17_ h13_ (xl X) r0 hr0) ⟨Nat.le_of_ble_eq_true rfl, Nat.le_of_ble_eq_true rfl⟩ rfl rfl (Nat.le_of_ble_eq_true rfl) dX5_takeTurn_57 ⟨Nat.le_of_ble_eq_true rfl, Nat.le_of_ble_eq_true rfl⟩) (q := 60) rfl (cs' := 0) rfl (sl' := 0) rfl (fun v20_ h19_ => ?_)
      refine s_aload_n o 0 rfl dX5_takeTurn_60 (q := 61) rfl ?_
      refine s_gr o kf_X5_62 dX5_takeTurn_61 (q := 64) rfl (fun a21_ => ?_)
      refine s_aload_n o 0 rfl dX5_takeTurn_64 (q := 65) rfl ?_
      refine s_gr o kf_X5_62 dX5_takeTurn_65 (q := 68) rfl (fun a22_ => ?_)
      refine s_gi o kf_X5_185 dX5_takeTurn_68 (q := 71) rfl (fun v23_ => ?_)
      refine s_on (fun hk24_ => ?_)
      refine s_bi (fun r0 hr0 => runV o hk24_ cv_X5_191 (c_X1_placeY (xG X) f a21_ v23_ h19_ (xl X) r0 hr0) ⟨Nat.le_of_ble_eq_true rfl, Nat.le_of_ble_eq_true rfl⟩ rfl rfl (Nat.le_of_ble_eq_true rfl) dX5_takeTurn_71 ⟨Nat.le_of_ble_eq_true rfl, Nat.le_of_ble_eq_true rfl⟩) (q := 74) rfl (cs' := 0) rfl (sl' := 0) rfl (fun v26_ h25_ => ?_)
      refine s_on (fun hk27_ => ?_)
      refine s_callv (fun r0 hr0 => runV o hk27_ cv_X5_155 (c_X5_digAt (xG X) f x0 x1 v20_ v26_ h25_ (xl X) r0 hr0) ⟨Nat.le_of_ble_eq_true rfl, Nat.le_of_ble_eq_true rfl⟩ rfl rfl (Nat.le_of_ble_eq_true rfl) dX5_takeTurn_74 ⟨Nat.le_of_ble_eq_true rfl, Nat.le_of_ble_eq_true rfl⟩) (q := 77) rfl (cs' := 0) rfl (sl' := 0) rfl (fun h28_ => ?_)
      refine s_goto o (tgt := 85) dX5_takeTurn_77 (by decide) ?_
      exact s_sub [] rfl (t_X5_takeTurn_85 o f h28_)
theorem c_X5_takeTurn (G : Gx) (f : Nat) (x0 : Nat) (x1 : Int32) (h : Hp) : z_M z_qv G yX5_takeTurn cX5_takeTurn 2 none 6 133 0 0 [rf G x0, .int x1] h (f_X5_takeTurn f x0 x1 h) :=
  z_met (by decide +kernel) (Nat.le_of_ble_eq_true rfl) (fun X hG hn o hnm => by
    subst hG
    show Sim X (z_Zv X 0 0) 0 0 0 [(0, rf (xG X) x0), (1, .int x1)] [] h _
    exact s_sub [0, 1] rfl (t_X5_takeTurn_0 o f x0 x1 h))
/-! SixMaps.hunt(I)I -/
def b_X5_hunt_92 (f : Nat)  (x0 : Nat) (h : Hp) : Option (Int32 × Hp) :=
  (q_gr h x0 5 6).bind fun a1_ =>
  (q_gi h a1_ 4 5).bind fun v2_ =>
  some (v2_, h)
def b_X5_hunt_86 (f : Nat) (k40 : Nat → Int32 → Int32 → Hp → Option (Int32 × Hp)) (x0 : Nat) (x1 : Int32) (x2 : Int32) (h : Hp) : Option (Int32 × Hp) :=
  lt (x2 + (1 : Int32)) fun v1_ =>
  k40 x0 x1 v1_ h
def b_X5_hunt_58 (f : Nat) (k40 : Nat → Int32 → Int32 → Hp → Option (Int32 × Hp)) (k58 : Nat → Int32 → Int32 → Int32 → Hp → Option (Int32 × Hp)) (x0 : Nat) (x1 : Int32) (x2 : Int32) (x3 : Int32) (h : Hp) : Option (Int32 × Hp) :=
  if (6 : Int32) ≤ x3 then
  (b_X5_hunt_86 f k40 x0 x1 x2 h)
  else
  ((q_gr h x0 5 6).bind fun a1_ =>
  (q_gi h a1_ 4 5).bind fun v2_ =>
  if ¬ v2_ = (-1 : Int32) then
  (b_X5_hunt_86 f k40 x0 x1 x2 h)
  else
  (q_on h x0 5 (
  (f_X5_takeTurn f x0 x3 h).bind fun h4_ =>
  lt (x3 + (1 : Int32)) fun v5_ =>
  k58 x0 x1 x2 v5_ h4_)))
def l_X5_hunt_58 (f : Nat) (k40 : Nat → Int32 → Int32 → Hp → Option (Int32 × Hp)) : Nat → Nat → Int32 → Int32 → Int32 → Hp → Option (Int32 × Hp)
  | 0, _, _, _, _, _ => none
  | n + 1, x0, x1, x2, x3, h => b_X5_hunt_58 f k40 (l_X5_hunt_58 f k40 n) x0 x1 x2 x3 h
def b_X5_hunt_40 (f : Nat) (k40 : Nat → Int32 → Int32 → Hp → Option (Int32 × Hp)) (x0 : Nat) (x1 : Int32) (x2 : Int32) (h : Hp) : Option (Int32 × Hp) :=
  if x1 ≤ x2 then
  (b_X5_hunt_92 f x0 h)
  else
  ((q_gr h x0 5 6).bind fun a1_ =>
  (q_gi h a1_ 4 5).bind fun v2_ =>
  if ¬ v2_ = (-1 : Int32) then
  (b_X5_hunt_92 f x0 h)
  else
  (l_X5_hunt_58 f k40 f x0 x1 x2 (0 : Int32) h))
def l_X5_hunt_40 (f : Nat)  : Nat → Nat → Int32 → Int32 → Hp → Option (Int32 × Hp)
  | 0, _, _, _, _ => none
  | n + 1, x0, x1, x2, h => b_X5_hunt_40 f  (l_X5_hunt_40 f  n) x0 x1 x2 h
def b_X5_hunt_35 (f : Nat)   (h : Hp) : Option (Int32 × Hp) :=
  some ((-1000003 : Int32), h)
def b_X5_hunt_11 (f : Nat)   (h : Hp) : Option (Int32 × Hp) :=
  some ((-1000002 : Int32), h)
def f_X5_hunt (f : Nat)  (x0 : Nat) (x1 : Int32) (h : Hp) : Option (Int32 × Hp) :=
  if x1 < (1 : Int32) then
  (b_X5_hunt_11 f h)
  else
  (if x1 ≤ (20 : Int32) then
  ((q_gr h x0 5 3).bind fun a1_ =>
  (q_gi h a1_ 0 4).bind fun v2_ =>
  if v2_ = 0 then
  (b_X5_hunt_35 f h)
  else
  ((q_gr h x0 5 6).bind fun a3_ =>
  (q_gi h a3_ 4 5).bind fun v4_ =>
  if v4_ = (-1 : Int32) then
  (l_X5_hunt_40 f f x0 x1 (0 : Int32) h)
  else
  (b_X5_hunt_35 f h)))
  else
  (b_X5_hunt_11 f h))
set_option maxRecDepth 20000 in
theorem t_X5_hunt_92 {X : Cx} (o : Ok X RX5 cX5_hunt 4 7 154 0 0 (some .int)) (f : Nat)  (x0 : Nat) (h : Hp) : Sim X (z_Zi X 0 0) 0 0 92 [(0, rf (xG X) x0)] [] h (b_X5_hunt_92 f x0 h) := by
  unfold b_X5_hunt_92
  refine s_aload_n o 0 rfl dX5_hunt_92 (q := 93) rfl ?_
  refine s_gr o kf_X5_40 dX5_hunt_93 (q := 96) rfl (fun a1_ => ?_)
  refine s_gi o kf_X5_109 dX5_hunt_96 (q := 99) rfl (fun v2_ => ?_)
  exact s_iret o dX5_hunt_99
set_option maxRecDepth 20000 in
theorem t_X5_hunt_86 {X : Cx} (o : Ok X RX5 cX5_hunt 4 7 154 0 0 (some .int)) (f : Nat) {k40 : Nat → Int32 → Int32 → Hp → Option (Int32 × Hp)} (hk40 : ∀ (x0 : Nat) (x1 : Int32) (x2 : Int32) (h : Hp), Sim X (z_Zi X 0 0) 0 0 40 [(0, rf (xG X) x0), (1, .int x1), (2, .int x2)] [] h (k40 x0 x1 x2 h)) (x0 : Nat) (x1 : Int32) (x2 : Int32) (h : Hp) : Sim X (z_Zi X 0 0) 0 0 86 [(0, rf (xG X) x0), (1, .int x1), (2, .int x2)] [] h (b_X5_hunt_86 f k40 x0 x1 x2 h) := by
  unfold b_X5_hunt_86
  refine s_iinc o 2 rfl (v := (1 : Int32)) (by decide) [1, 2, 0] (lv' := fun v1_ => [(0, rf (xG X) x0), (1, .int x1), (2, .int v1_)]) (fun _ => rfl) dX5_hunt_86 (by decide) (q := 89) rfl (fun v1_ => ?_)
  refine s_goto o (tgt := 40) dX5_hunt_89 (by decide) ?_
  exact s_sub [0, 1, 2] rfl (hk40 x0 x1 v1_ h)
set_option maxRecDepth 20000 in
theorem t_X5_hunt_58 {X : Cx} (o : Ok X RX5 cX5_hunt 4 7 154 0 0 (some .int)) (f : Nat) {k40 : Nat → Int32 → Int32 → Hp → Option (Int32 × Hp)} (hk40 : ∀ (x0 : Nat) (x1 : Int32) (x2 : Int32) (h : Hp), Sim X (z_Zi X 0 0) 0 0 40 [(0, rf (xG X) x0), (1, .int x1), (2, .int x2)] [] h (k40 x0 x1 x2 h)) {k58 : Nat → Int32 → Int32 → Int32 → Hp → Option (Int32 × Hp)} (hk58 : ∀ (x0 : Nat) (x1 : Int32) (x2 : Int32) (x3 : Int32) (h : Hp), Sim X (z_Zi X 0 0) 0 0 58 [(0, rf (xG X) x0), (1, .int x1), (2, .int x2), (3, .int x3)] [] h (k58 x0 x1 x2 x3 h)) (x0 : Nat) (x1 : Int32) (x2 : Int32) (x3 : Int32) (h : Hp) : Sim X (z_Zi X 0 0) 0 0 58 [(0, rf (xG X) x0), (1, .int x1), (2, .int x2), (3, .int x3)] [] h (b_X5_hunt_58 f k40 k58 x0 x1 x2 x3 h) := by
  unfold b_X5_hunt_58
  refine s_iload_n o 3 rfl dX5_hunt_58 (q := 59) rfl ?_
  refine s_bipush o dX5_hunt_59 (v := (6 : Int32)) (by decide) (q := 61) rfl ?_
  refine s_ic_ge o (tgt := 86) dX5_hunt_61 (by decide) (q := 64) rfl ?_ ?_
  · exact s_sub [0, 1, 2] rfl (t_X5_hunt_86 o f hk40 x0 x1 x2 h)
  · refine s_aload_n o 0 rfl dX5_hunt_64 (q := 65) rfl ?_
    refine s_gr o kf_X5_40 dX5_hunt_65 (q := 68) rfl (fun a1_ => ?_)
    refine s_gi o kf_X5_109 dX5_hunt_68 (q := 71) rfl (fun v2_ => ?_)
    refine s_iconst o dX5_hunt_71 (v := (-1 : Int32)) (by decide) (q := 72) rfl ?_
    refine s_ic_ne o (tgt := 86) dX5_hunt_72 (by decide) (q := 75) rfl ?_ ?_
    · exact s_sub [0, 1, 2] rfl (t_X5_hunt_86 o f hk40 x0 x1 x2 h)
    · refine s_aload_n o 0 rfl dX5_hunt_75 (q := 76) rfl ?_
      refine s_iload_n o 3 rfl dX5_hunt_76 (q := 77) rfl ?_
      refine s_on (fun hk3_ => ?_)
      refine s_callv (fun r0 hr0 => runV o hk3_ cv_X5_240 (c_X5_takeTurn (xG X) f x0 x3 h (xl X) r0 hr0) ⟨Nat.le_of_ble_eq_true rfl, Nat.le_of_ble_eq_true rfl⟩ rfl rfl (Nat.le_of_ble_eq_true rfl) dX5_hunt_77 ⟨Nat.le_of_ble_eq_true rfl, Nat.le_of_ble_eq_true rfl⟩) (q := 80) rfl (cs' := 0) rfl (sl' := 0) rfl (fun h4_ => ?_)
      refine s_iinc o 3 rfl (v := (1 : Int32)) (by decide) [1, 2, 3, 0] (lv' := fun v5_ => [(0, rf (xG X) x0), (1, .int x1), (2, .int x2), (3, .int v5_)]) (fun _ => rfl) dX5_hunt_80 (by decide) (q := 83) rfl (fun v5_ => ?_)
      refine s_goto o (tgt := 58) dX5_hunt_83 (by decide) ?_
      exact s_sub [0, 1, 2, 3] rfl (hk58 x0 x1 x2 v5_ h4_)
theorem tl_X5_hunt_58 {X : Cx} (o : Ok X RX5 cX5_hunt 4 7 154 0 0 (some .int)) (f : Nat) {k40 : Nat → Int32 → Int32 → Hp → Option (Int32 × Hp)} (hk40 : ∀ (x0 : Nat) (x1 : Int32) (x2 : Int32) (h : Hp), Sim X (z_Zi X 0 0) 0 0 40 [(0, rf (xG X) x0), (1, .int x1), (2, .int x2)] [] h (k40 x0 x1 x2 h)) : ∀ (n : Nat) (x0 : Nat) (x1 : Int32) (x2 : Int32) (x3 : Int32) (h : Hp), Sim X (z_Zi X 0 0) 0 0 58 [(0, rf (xG X) x0), (1, .int x1), (2, .int x2), (3, .int x3)] [] h (l_X5_hunt_58 f k40 n x0 x1 x2 x3 h) := by
  intro n
  induction n with
  | zero => intro x0 x1 x2 x3 h; exact s_none
  | succ n ih => intro x0 x1 x2 x3 h; exact t_X5_hunt_58 o f hk40 ih x0 x1 x2 x3 h
set_option maxRecDepth 20000 in
theorem t_X5_hunt_40 {X : Cx} (o : Ok X RX5 cX5_hunt 4 7 154 0 0 (some .int)) (f : Nat) {k40 : Nat → Int32 → Int32 → Hp → Option (Int32 × Hp)} (hk40 : ∀ (x0 : Nat) (x1 : Int32) (x2 : Int32) (h : Hp), Sim X (z_Zi X 0 0) 0 0 40 [(0, rf (xG X) x0), (1, .int x1), (2, .int x2)] [] h (k40 x0 x1 x2 h)) (x0 : Nat) (x1 : Int32) (x2 : Int32) (h : Hp) : Sim X (z_Zi X 0 0) 0 0 40 [(0, rf (xG X) x0), (1, .int x1), (2, .int x2)] [] h (b_X5_hunt_40 f k40 x0 x1 x2 h) := by
  unfold b_X5_hunt_40
  refine s_iload_n o 2 rfl dX5_hunt_40 (q := 41) rfl ?_
  refine s_iload_n o 1 rfl dX5_hunt_41 (q := 42) rfl ?_
  refine s_ic_ge o (tgt := 92) dX5_hunt_42 (by decide) (q := 45) rfl ?_ ?_
  · exact s_sub [0] rfl (t_X5_hunt_92 o f x0 h)
  · refine s_aload_n o 0 rfl dX5_hunt_45 (q := 46) rfl ?_
    refine s_gr o kf_X5_40 dX5_hunt_46 (q := 49) rfl (fun a1_ => ?_)
    refine s_gi o kf_X5_109 dX5_hunt_49 (q := 52) rfl (fun v2_ => ?_)
    refine s_iconst o dX5_hunt_52 (v := (-1 : Int32)) (by decide) (q := 53) rfl ?_
    refine s_ic_ne o (tgt := 92) dX5_hunt_53 (by decide) (q := 56) rfl ?_ ?_
    · exact s_sub [0] rfl (t_X5_hunt_92 o f x0 h)
    · refine s_iconst o dX5_hunt_56 (v := (0 : Int32)) (by decide) (q := 57) rfl ?_
      refine s_istore_n o [1, 2, 3, 0] (lv' := [(0, rf (xG X) x0), (1, .int x1), (2, .int x2), (3, .int (0 : Int32))]) rfl dX5_hunt_57 (by decide) (q := 58) rfl ?_
      exact s_sub [0, 1, 2, 3] rfl (tl_X5_hunt_58 o f hk40 f x0 x1 x2 (0 : Int32) h)
theorem tl_X5_hunt_40 {X : Cx} (o : Ok X RX5 cX5_hunt 4 7 154 0 0 (some .int)) (f : Nat)  : ∀ (n : Nat) (x0 : Nat) (x1 : Int32) (x2 : Int32) (h : Hp), Sim X (z_Zi X 0 0) 0 0 40 [(0, rf (xG X) x0), (1, .int x1), (2, .int x2)] [] h (l_X5_hunt_40 f n x0 x1 x2 h) := by
  intro n
  induction n with
  | zero => intro x0 x1 x2 h; exact s_none
  | succ n ih => intro x0 x1 x2 h; exact t_X5_hunt_40 o f  ih x0 x1 x2 h
set_option maxRecDepth 20000 in
theorem t_X5_hunt_35 {X : Cx} (o : Ok X RX5 cX5_hunt 4 7 154 0 0 (some .int)) (f : Nat)   (h : Hp) : Sim X (z_Zi X 0 0) 0 0 35 [] [] h (b_X5_hunt_35 f h) := by
  unfold b_X5_hunt_35
  refine s_ldc o kc_X5_133 dX5_hunt_35 (q := 37) rfl ?_
  exact s_iret o dX5_hunt_37
set_option maxRecDepth 20000 in
theorem t_X5_hunt_11 {X : Cx} (o : Ok X RX5 cX5_hunt 4 7 154 0 0 (some .int)) (f : Nat)   (h : Hp) : Sim X (z_Zi X 0 0) 0 0 11 [] [] h (b_X5_hunt_11 f h) := by
  unfold b_X5_hunt_11
  refine s_ldc o kc_X5_66 dX5_hunt_11 (q := 13) rfl ?_
  exact s_iret o dX5_hunt_13
set_option maxRecDepth 20000 in
theorem t_X5_hunt_0 {X : Cx} (o : Ok X RX5 cX5_hunt 4 7 154 0 0 (some .int)) (f : Nat)  (x0 : Nat) (x1 : Int32) (h : Hp) : Sim X (z_Zi X 0 0) 0 0 0 [(0, rf (xG X) x0), (1, .int x1)] [] h (f_X5_hunt f x0 x1 h) := by
  unfold f_X5_hunt
  refine s_iload_n o 1 rfl dX5_hunt_0 (q := 1) rfl ?_
  refine s_iconst o dX5_hunt_1 (v := (1 : Int32)) (by decide) (q := 2) rfl ?_
  refine s_ic_lt o (tgt := 11) dX5_hunt_2 (by decide) (q := 5) rfl ?_ ?_
  · exact s_sub [] rfl (t_X5_hunt_11 o f h)
  · refine s_iload_n o 1 rfl dX5_hunt_5 (q := 6) rfl ?_
    refine s_bipush o dX5_hunt_6 (v := (20 : Int32)) (by decide) (q := 8) rfl ?_
    refine s_ic_le o (tgt := 14) dX5_hunt_8 (by decide) (q := 11) rfl ?_ ?_
    · refine s_aload_n o 0 rfl dX5_hunt_14 (q := 15) rfl ?_
      refine s_gr o kf_X5_23 dX5_hunt_15 (q := 18) rfl (fun a1_ => ?_)
      refine s_gi o kf_X5_75 dX5_hunt_18 (q := 21) rfl (fun v2_ => ?_)
      refine s_if_eq o (tgt := 35) dX5_hunt_21 (by decide) (q := 24) rfl ?_ ?_
      · exact s_sub [] rfl (t_X5_hunt_35 o f h)
      · refine s_aload_n o 0 rfl dX5_hunt_24 (q := 25) rfl ?_
        refine s_gr o kf_X5_40 dX5_hunt_25 (q := 28) rfl (fun a3_ => ?_)
        refine s_gi o kf_X5_109 dX5_hunt_28 (q := 31) rfl (fun v4_ => ?_)
        refine s_iconst o dX5_hunt_31 (v := (-1 : Int32)) (by decide) (q := 32) rfl ?_
        refine s_ic_eq o (tgt := 38) dX5_hunt_32 (by decide) (q := 35) rfl ?_ ?_
        · refine s_iconst o dX5_hunt_38 (v := (0 : Int32)) (by decide) (q := 39) rfl ?_
          refine s_istore_n o [1, 2, 0] (lv' := [(0, rf (xG X) x0), (1, .int x1), (2, .int (0 : Int32))]) rfl dX5_hunt_39 (by decide) (q := 40) rfl ?_
          exact s_sub [0, 1, 2] rfl (tl_X5_hunt_40 o f f x0 x1 (0 : Int32) h)
        · exact s_sub [] rfl (t_X5_hunt_35 o f h)
    · exact s_sub [] rfl (t_X5_hunt_11 o f h)
theorem c_X5_hunt (G : Gx) (f : Nat) (x0 : Nat) (x1 : Int32) (h : Hp) : z_M z_qi G yX5_hunt cX5_hunt 4 (some .int) 7 154 0 0 [rf G x0, .int x1] h (f_X5_hunt f x0 x1 h) :=
  z_met (by decide +kernel) (Nat.le_of_ble_eq_true rfl) (fun X hG hn o hnm => by
    subst hG
    show Sim X (z_Zi X 0 0) 0 0 0 [(0, rf (xG X) x0), (1, .int x1)] [] h _
    exact s_sub [0, 1] rfl (t_X5_hunt_0 o f x0 x1 h))
