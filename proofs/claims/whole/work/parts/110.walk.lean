/-! SixMapsModel.isApart(II)Z -/
def b_X6_isApart_139 (f : Nat)  (y0 : Int32) (h : Hp) : Option (Int32 × Hp) :=
  q_bo y0 (some (y0, h))
def b_X6_isApart_138 (f : Nat)   (h : Hp) : Option (Int32 × Hp) :=
  b_X6_isApart_139 f (0 : Int32) h
def b_X6_isApart_134 (f : Nat)   (h : Hp) : Option (Int32 × Hp) :=
  b_X6_isApart_139 f (1 : Int32) h
def b_X6_isApart_113 (f : Nat)  (x0 : Nat) (x2 : Int32) (x5 : Int32) (y0 : Int32) (h : Hp) : Option (Int32 × Hp) :=
  (q_gr h x0 6 41).bind fun a1_ =>
  (q_ai h a1_ 10 x2).bind fun v2_ =>
  if ¬ v2_ = 0 then
  (b_X6_isApart_138 f h)
  else
  (if ¬ x5 = 0 then
  (b_X6_isApart_134 f h)
  else
  (if y0 = 0 then
  (b_X6_isApart_138 f h)
  else
  (b_X6_isApart_134 f h)))
def b_X6_isApart_108 (f : Nat)  (x0 : Nat) (x2 : Int32) (x5 : Int32) (h : Hp) : Option (Int32 × Hp) :=
  b_X6_isApart_113 f x0 x2 x5 (1 : Int32) h
def b_X6_isApart_66 (f : Nat)  (x0 : Nat) (x2 : Int32) (x4 : Int32) (y0 : Int32) (h : Hp) : Option (Int32 × Hp) :=
  (q_gi h x0 6 7).bind fun v1_ =>
  (q_gr h x0 6 42).bind fun a2_ =>
  (q_ai h a2_ 9 (((4 : Int32) * x2) + (2 : Int32))).bind fun v3_ =>
  if (x4 + v1_) < v3_ then
  (b_X6_isApart_108 f x0 x2 y0 h)
  else
  ((q_gi h x0 6 7).bind fun v4_ =>
  (q_gr h x0 6 42).bind fun a5_ =>
  (q_ai h a5_ 9 (((4 : Int32) * x2) + (3 : Int32))).bind fun v6_ =>
  if (x4 - v4_) ≤ v6_ then
  (b_X6_isApart_113 f x0 x2 y0 (0 : Int32) h)
  else
  (b_X6_isApart_108 f x0 x2 y0 h))
def b_X6_isApart_61 (f : Nat)  (x0 : Nat) (x2 : Int32) (x4 : Int32) (h : Hp) : Option (Int32 × Hp) :=
  b_X6_isApart_66 f x0 x2 x4 (1 : Int32) h
def f_X6_isApart (f : Nat)  (x0 : Nat) (x1 : Int32) (x2 : Int32) (h : Hp) : Option (Int32 × Hp) :=
  (q_gr h x0 6 3).bind fun a1_ =>
  (q_ai h a1_ 9 (((9 : Int32) * x1) + x2)).bind fun v2_ =>
  (q_gr h x0 6 4).bind fun a3_ =>
  (q_ai h a3_ 9 (((9 : Int32) * x1) + x2)).bind fun v4_ =>
  (q_gi h x0 6 7).bind fun v5_ =>
  (q_gr h x0 6 42).bind fun a6_ =>
  (q_ai h a6_ 9 ((4 : Int32) * x2)).bind fun v7_ =>
  if (v2_ + v5_) < v7_ then
  (b_X6_isApart_61 f x0 x2 v4_ h)
  else
  ((q_gi h x0 6 7).bind fun v8_ =>
  (q_gr h x0 6 42).bind fun a9_ =>
  (q_ai h a9_ 9 (((4 : Int32) * x2) + (1 : Int32))).bind fun v10_ =>
  if (v2_ - v8_) ≤ v10_ then
  (b_X6_isApart_66 f x0 x2 v4_ (0 : Int32) h)
  else
  (b_X6_isApart_61 f x0 x2 v4_ h))
set_option maxRecDepth 20000 in
theorem t_X6_isApart_139 {X : Cx} (o : Ok X RX6 cX6_isApart 7 0 0 0 0 (some .boolean)) (f : Nat)  (y0 : Int32) (h : Hp) : Sim X (z_Zi X 0 0) 0 0 139 [] [.int y0] h (b_X6_isApart_139 f y0 h) := by
  unfold b_X6_isApart_139
  exact s_zret o dX6_isApart_139
set_option maxRecDepth 20000 in
theorem t_X6_isApart_138 {X : Cx} (o : Ok X RX6 cX6_isApart 7 0 0 0 0 (some .boolean)) (f : Nat)   (h : Hp) : Sim X (z_Zi X 0 0) 0 0 138 [] [] h (b_X6_isApart_138 f h) := by
  unfold b_X6_isApart_138
  refine s_iconst o dX6_isApart_138 (v := (0 : Int32)) (by decide) (q := 139) rfl ?_
  exact s_sub [] rfl (t_X6_isApart_139 o f (0 : Int32) h)
set_option maxRecDepth 20000 in
theorem t_X6_isApart_134 {X : Cx} (o : Ok X RX6 cX6_isApart 7 0 0 0 0 (some .boolean)) (f : Nat)   (h : Hp) : Sim X (z_Zi X 0 0) 0 0 134 [] [] h (b_X6_isApart_134 f h) := by
  unfold b_X6_isApart_134
  refine s_iconst o dX6_isApart_134 (v := (1 : Int32)) (by decide) (q := 135) rfl ?_
  refine s_goto o (tgt := 139) dX6_isApart_135 (by decide) ?_
  exact s_sub [] rfl (t_X6_isApart_139 o f (1 : Int32) h)
set_option maxRecDepth 20000 in
theorem t_X6_isApart_113 {X : Cx} (o : Ok X RX6 cX6_isApart 7 0 0 0 0 (some .boolean)) (f : Nat)  (x0 : Nat) (x2 : Int32) (x5 : Int32) (y0 : Int32) (h : Hp) : Sim X (z_Zi X 0 0) 0 0 113 [(0, rf (xG X) x0), (2, .int x2), (5, .int x5)] [.int y0] h (b_X6_isApart_113 f x0 x2 x5 y0 h) := by
  unfold b_X6_isApart_113
  refine s_istore o [1, 2, 3, 0] (lv' := [(0, rf (xG X) x0), (2, .int x2), (5, .int x5), (6, .int y0)]) rfl dX6_isApart_113 (by decide) (q := 115) rfl ?_
  refine s_aload_n o 0 rfl dX6_isApart_115 (q := 116) rfl ?_
  refine s_gr o kf_X6_72 dX6_isApart_116 (q := 119) rfl (fun a1_ => ?_)
  refine s_iload_n o 1 rfl dX6_isApart_119 (q := 120) rfl ?_
  refine s_zald o dX6_isApart_120 (q := 121) rfl (fun v2_ => ?_)
  refine s_if_ne o (tgt := 138) dX6_isApart_121 (by decide) (q := 124) rfl ?_ ?_
  · exact s_sub [] rfl (t_X6_isApart_138 o f h)
  · refine s_iload o 2 rfl dX6_isApart_124 (q := 126) rfl ?_
    refine s_if_ne o (tgt := 134) dX6_isApart_126 (by decide) (q := 129) rfl ?_ ?_
    · exact s_sub [] rfl (t_X6_isApart_134 o f h)
    · refine s_iload o 3 rfl dX6_isApart_129 (q := 131) rfl ?_
      refine s_if_eq o (tgt := 138) dX6_isApart_131 (by decide) (q := 134) rfl ?_ ?_
      · exact s_sub [] rfl (t_X6_isApart_138 o f h)
      · exact s_sub [] rfl (t_X6_isApart_134 o f h)
set_option maxRecDepth 20000 in
theorem t_X6_isApart_108 {X : Cx} (o : Ok X RX6 cX6_isApart 7 0 0 0 0 (some .boolean)) (f : Nat)  (x0 : Nat) (x2 : Int32) (x5 : Int32) (h : Hp) : Sim X (z_Zi X 0 0) 0 0 108 [(0, rf (xG X) x0), (2, .int x2), (5, .int x5)] [] h (b_X6_isApart_108 f x0 x2 x5 h) := by
  unfold b_X6_isApart_108
  refine s_iconst o dX6_isApart_108 (v := (1 : Int32)) (by decide) (q := 109) rfl ?_
  refine s_goto o (tgt := 113) dX6_isApart_109 (by decide) ?_
  exact s_sub [0, 1, 2] rfl (t_X6_isApart_113 o f x0 x2 x5 (1 : Int32) h)
set_option maxRecDepth 20000 in
theorem t_X6_isApart_66 {X : Cx} (o : Ok X RX6 cX6_isApart 7 0 0 0 0 (some .boolean)) (f : Nat)  (x0 : Nat) (x2 : Int32) (x4 : Int32) (y0 : Int32) (h : Hp) : Sim X (z_Zi X 0 0) 0 0 66 [(0, rf (xG X) x0), (2, .int x2), (4, .int x4)] [.int y0] h (b_X6_isApart_66 f x0 x2 x4 y0 h) := by
  unfold b_X6_isApart_66
  refine s_istore o [1, 2, 3, 0] (lv' := [(0, rf (xG X) x0), (2, .int x2), (4, .int x4), (5, .int y0)]) rfl dX6_isApart_66 (by decide) (q := 68) rfl ?_
  refine s_iload o 2 rfl dX6_isApart_68 (q := 70) rfl ?_
  refine s_aload_n o 0 rfl dX6_isApart_70 (q := 71) rfl ?_
  refine s_gi o kf_X6_256 dX6_isApart_71 (q := 74) rfl (fun v1_ => ?_)
  refine s_iadd o dX6_isApart_74 (q := 75) rfl ?_
  refine s_aload_n o 0 rfl dX6_isApart_75 (q := 76) rfl ?_
  refine s_gr o kf_X6_75 dX6_isApart_76 (q := 79) rfl (fun a2_ => ?_)
  refine s_iconst o dX6_isApart_79 (v := (4 : Int32)) (by decide) (q := 80) rfl ?_
  refine s_iload_n o 1 rfl dX6_isApart_80 (q := 81) rfl ?_
  refine s_imul o dX6_isApart_81 (q := 82) rfl ?_
  refine s_iconst o dX6_isApart_82 (v := (2 : Int32)) (by decide) (q := 83) rfl ?_
  refine s_iadd o dX6_isApart_83 (q := 84) rfl ?_
  refine s_iald o dX6_isApart_84 (q := 85) rfl (fun v3_ => ?_)
  refine s_ic_lt o (tgt := 108) dX6_isApart_85 (by decide) (q := 88) rfl ?_ ?_
  · exact s_sub [0, 1, 3] rfl (t_X6_isApart_108 o f x0 x2 y0 h)
  · refine s_iload o 2 rfl dX6_isApart_88 (q := 90) rfl ?_
    refine s_aload_n o 0 rfl dX6_isApart_90 (q := 91) rfl ?_
    refine s_gi o kf_X6_256 dX6_isApart_91 (q := 94) rfl (fun v4_ => ?_)
    refine s_isub o dX6_isApart_94 (q := 95) rfl ?_
    refine s_aload_n o 0 rfl dX6_isApart_95 (q := 96) rfl ?_
    refine s_gr o kf_X6_75 dX6_isApart_96 (q := 99) rfl (fun a5_ => ?_)
    refine s_iconst o dX6_isApart_99 (v := (4 : Int32)) (by decide) (q := 100) rfl ?_
    refine s_iload_n o 1 rfl dX6_isApart_100 (q := 101) rfl ?_
    refine s_imul o dX6_isApart_101 (q := 102) rfl ?_
    refine s_iconst o dX6_isApart_102 (v := (3 : Int32)) (by decide) (q := 103) rfl ?_
    refine s_iadd o dX6_isApart_103 (q := 104) rfl ?_
    refine s_iald o dX6_isApart_104 (q := 105) rfl (fun v6_ => ?_)
    refine s_ic_le o (tgt := 112) dX6_isApart_105 (by decide) (q := 108) rfl ?_ ?_
    · refine s_iconst o dX6_isApart_112 (v := (0 : Int32)) (by decide) (q := 113) rfl ?_
      exact s_sub [0, 1, 3] rfl (t_X6_isApart_113 o f x0 x2 y0 (0 : Int32) h)
    · exact s_sub [0, 1, 3] rfl (t_X6_isApart_108 o f x0 x2 y0 h)
set_option maxRecDepth 20000 in
theorem t_X6_isApart_61 {X : Cx} (o : Ok X RX6 cX6_isApart 7 0 0 0 0 (some .boolean)) (f : Nat)  (x0 : Nat) (x2 : Int32) (x4 : Int32) (h : Hp) : Sim X (z_Zi X 0 0) 0 0 61 [(0, rf (xG X) x0), (2, .int x2), (4, .int x4)] [] h (b_X6_isApart_61 f x0 x2 x4 h) := by
  unfold b_X6_isApart_61
  refine s_iconst o dX6_isApart_61 (v := (1 : Int32)) (by decide) (q := 62) rfl ?_
  refine s_goto o (tgt := 66) dX6_isApart_62 (by decide) ?_
  exact s_sub [0, 1, 2] rfl (t_X6_isApart_66 o f x0 x2 x4 (1 : Int32) h)
set_option maxRecDepth 20000 in
theorem t_X6_isApart_0 {X : Cx} (o : Ok X RX6 cX6_isApart 7 0 0 0 0 (some .boolean)) (f : Nat)  (x0 : Nat) (x1 : Int32) (x2 : Int32) (h : Hp) : Sim X (z_Zi X 0 0) 0 0 0 [(0, rf (xG X) x0), (1, .int x1), (2, .int x2)] [] h (f_X6_isApart f x0 x1 x2 h) := by
  unfold f_X6_isApart
  refine s_aload_n o 0 rfl dX6_isApart_0 (q := 1) rfl ?_
  refine s_gr o kf_X6_16 dX6_isApart_1 (q := 4) rfl (fun a1_ => ?_)
  refine s_bipush o dX6_isApart_4 (v := (9 : Int32)) (by decide) (q := 6) rfl ?_
  refine s_iload_n o 1 rfl dX6_isApart_6 (q := 7) rfl ?_
  refine s_imul o dX6_isApart_7 (q := 8) rfl ?_
  refine s_iload_n o 2 rfl dX6_isApart_8 (q := 9) rfl ?_
  refine s_iadd o dX6_isApart_9 (q := 10) rfl ?_
  refine s_iald o dX6_isApart_10 (q := 11) rfl (fun v2_ => ?_)
  refine s_istore_n o [1, 2, 3, 0] (lv' := [(0, rf (xG X) x0), (1, .int x1), (2, .int x2), (3, .int v2_)]) rfl dX6_isApart_11 (by decide) (q := 12) rfl ?_
  refine s_aload_n o 0 rfl dX6_isApart_12 (q := 13) rfl ?_
  refine s_gr o kf_X6_19 dX6_isApart_13 (q := 16) rfl (fun a3_ => ?_)
  refine s_bipush o dX6_isApart_16 (v := (9 : Int32)) (by decide) (q := 18) rfl ?_
  refine s_iload_n o 1 rfl dX6_isApart_18 (q := 19) rfl ?_
  refine s_imul o dX6_isApart_19 (q := 20) rfl ?_
  refine s_iload_n o 2 rfl dX6_isApart_20 (q := 21) rfl ?_
  refine s_iadd o dX6_isApart_21 (q := 22) rfl ?_
  refine s_iald o dX6_isApart_22 (q := 23) rfl (fun v4_ => ?_)
  refine s_istore o [1, 2, 3, 4, 0] (lv' := [(0, rf (xG X) x0), (1, .int x1), (2, .int x2), (3, .int v2_), (4, .int v4_)]) rfl dX6_isApart_23 (by decide) (q := 25) rfl ?_
  refine s_iload_n o 3 rfl dX6_isApart_25 (q := 26) rfl ?_
  refine s_aload_n o 0 rfl dX6_isApart_26 (q := 27) rfl ?_
  refine s_gi o kf_X6_256 dX6_isApart_27 (q := 30) rfl (fun v5_ => ?_)
  refine s_iadd o dX6_isApart_30 (q := 31) rfl ?_
  refine s_aload_n o 0 rfl dX6_isApart_31 (q := 32) rfl ?_
  refine s_gr o kf_X6_75 dX6_isApart_32 (q := 35) rfl (fun a6_ => ?_)
  refine s_iconst o dX6_isApart_35 (v := (4 : Int32)) (by decide) (q := 36) rfl ?_
  refine s_iload_n o 2 rfl dX6_isApart_36 (q := 37) rfl ?_
  refine s_imul o dX6_isApart_37 (q := 38) rfl ?_
  refine s_iald o dX6_isApart_38 (q := 39) rfl (fun v7_ => ?_)
  refine s_ic_lt o (tgt := 61) dX6_isApart_39 (by decide) (q := 42) rfl ?_ ?_
  · exact s_sub [0, 2, 4] rfl (t_X6_isApart_61 o f x0 x2 v4_ h)
  · refine s_iload_n o 3 rfl dX6_isApart_42 (q := 43) rfl ?_
    refine s_aload_n o 0 rfl dX6_isApart_43 (q := 44) rfl ?_
    refine s_gi o kf_X6_256 dX6_isApart_44 (q := 47) rfl (fun v8_ => ?_)
    refine s_isub o dX6_isApart_47 (q := 48) rfl ?_
    refine s_aload_n o 0 rfl dX6_isApart_48 (q := 49) rfl ?_
    refine s_gr o kf_X6_75 dX6_isApart_49 (q := 52) rfl (fun a9_ => ?_)
    refine s_iconst o dX6_isApart_52 (v := (4 : Int32)) (by decide) (q := 53) rfl ?_
    refine s_iload_n o 2 rfl dX6_isApart_53 (q := 54) rfl ?_
    refine s_imul o dX6_isApart_54 (q := 55) rfl ?_
    refine s_iconst o dX6_isApart_55 (v := (1 : Int32)) (by decide) (q := 56) rfl ?_
    refine s_iadd o dX6_isApart_56 (q := 57) rfl ?_
    refine s_iald o dX6_isApart_57 (q := 58) rfl (fun v10_ => ?_)
    refine s_ic_le o (tgt := 65) dX6_isApart_58 (by decide) (q := 61) rfl ?_ ?_
    · refine s_iconst o dX6_isApart_65 (v := (0 : Int32)) (by decide) (q := 66) rfl ?_
      exact s_sub [0, 2, 4] rfl (t_X6_isApart_66 o f x0 x2 v4_ (0 : Int32) h)
    · exact s_sub [0, 2, 4] rfl (t_X6_isApart_61 o f x0 x2 v4_ h)
theorem c_X6_isApart (G : Gx) (f : Nat) (x0 : Nat) (x1 : Int32) (x2 : Int32) (h : Hp) : z_M z_qi G yX6_isApart cX6_isApart 7 (some .boolean) 0 0 0 0 [rf G x0, .int x1, .int x2] h (f_X6_isApart f x0 x1 x2 h) :=
  z_met (by decide +kernel) (Nat.le_of_ble_eq_true rfl) (fun X hG hn o hnm => by
    subst hG
    show Sim X (z_Zi X 0 0) 0 0 0 [(0, rf (xG X) x0), (1, .int x1), (2, .int x2)] [] h _
    exact s_sub [0, 1, 2] rfl (t_X6_isApart_0 o f x0 x1 x2 h))
/-! SixMapsModel.offTimes(II)I -/
def b_X6_offTimes_49 (f : Nat) (k5 : Nat → Int32 → Int32 → Int32 → Int32 → Hp → Option (Int32 × Hp)) (x0 : Nat) (x1 : Int32) (x2 : Int32) (x4 : Int32) (y0 : Int32) (y1 : Int32) (h : Hp) : Option (Int32 × Hp) :=
  lt (y0 + y1) fun v1_ =>
  lt (x4 + (1 : Int32)) fun v2_ =>
  k5 x0 x1 x2 v1_ v2_ h
def b_X6_offTimes_48 (f : Nat) (k5 : Nat → Int32 → Int32 → Int32 → Int32 → Hp → Option (Int32 × Hp)) (x0 : Nat) (x1 : Int32) (x2 : Int32) (x4 : Int32) (y0 : Int32) (h : Hp) : Option (Int32 × Hp) :=
  b_X6_offTimes_49 f k5 x0 x1 x2 x4 y0 (0 : Int32) h
def b_X6_offTimes_5 (f : Nat) (k5 : Nat → Int32 → Int32 → Int32 → Int32 → Hp → Option (Int32 × Hp)) (x0 : Nat) (x1 : Int32) (x2 : Int32) (x3 : Int32) (x4 : Int32) (h : Hp) : Option (Int32 × Hp) :=
  (q_gi h x0 6 0).bind fun v1_ =>
  if v1_ ≤ x4 then
  (some (x3, h))
  else
  ((q_gr h x0 6 11).bind fun a2_ =>
  (q_ai h a2_ 9 (((6 : Int32) * x1) + x2)).bind fun v3_ =>
  bi (f_X6_has f v3_ x4 h) fun v5_ h4_ =>
  if v5_ = 0 then
  (b_X6_offTimes_48 f k5 x0 x1 x2 x4 x3 h4_)
  else
  (q_on h4_ x0 6 (
  bi (f_X6_isApart f x0 x2 x4 h4_) fun v8_ h7_ =>
  if v8_ = 0 then
  (b_X6_offTimes_48 f k5 x0 x1 x2 x4 x3 h7_)
  else
  (b_X6_offTimes_49 f k5 x0 x1 x2 x4 x3 (1 : Int32) h7_))))
def l_X6_offTimes_5 (f : Nat)  : Nat → Nat → Int32 → Int32 → Int32 → Int32 → Hp → Option (Int32 × Hp)
  | 0, _, _, _, _, _, _ => none
  | n + 1, x0, x1, x2, x3, x4, h => b_X6_offTimes_5 f  (l_X6_offTimes_5 f  n) x0 x1 x2 x3 x4 h
def f_X6_offTimes (f : Nat)  (x0 : Nat) (x1 : Int32) (x2 : Int32) (h : Hp) : Option (Int32 × Hp) :=
  l_X6_offTimes_5 f f x0 x1 x2 (0 : Int32) (0 : Int32) h
set_option maxRecDepth 20000 in
theorem t_X6_offTimes_49 {X : Cx} (o : Ok X RX6 cX6_offTimes 5 1 26 0 0 (some .int)) (f : Nat) {k5 : Nat → Int32 → Int32 → Int32 → Int32 → Hp → Option (Int32 × Hp)} (hk5 : ∀ (x0 : Nat) (x1 : Int32) (x2 : Int32) (x3 : Int32) (x4 : Int32) (h : Hp), Sim X (z_Zi X 0 0) 0 0 5 [(0, rf (xG X) x0), (1, .int x1), (2, .int x2), (3, .int x3), (4, .int x4)] [] h (k5 x0 x1 x2 x3 x4 h)) (x0 : Nat) (x1 : Int32) (x2 : Int32) (x4 : Int32) (y0 : Int32) (y1 : Int32) (h : Hp) : Sim X (z_Zi X 0 0) 0 0 49 [(0, rf (xG X) x0), (1, .int x1), (2, .int x2), (4, .int x4)] [.int y1, .int y0] h (b_X6_offTimes_49 f k5 x0 x1 x2 x4 y0 y1 h) := by
  unfold b_X6_offTimes_49
  refine s_iadd o dX6_offTimes_49 (q := 50) rfl ?_
  refine s_let (fun v1_ => ?_)
  refine s_istore_n o [1, 2, 3, 0, 4] (lv' := [(0, rf (xG X) x0), (1, .int x1), (2, .int x2), (3, .int v1_), (4, .int x4)]) rfl dX6_offTimes_50 (by decide) (q := 51) rfl ?_
  refine s_iinc o 4 rfl (v := (1 : Int32)) (by decide) [1, 2, 3, 4, 0] (lv' := fun v2_ => [(0, rf (xG X) x0), (1, .int x1), (2, .int x2), (3, .int v1_), (4, .int v2_)]) (fun _ => rfl) dX6_offTimes_51 (by decide) (q := 54) rfl (fun v2_ => ?_)
  refine s_goto o (tgt := 5) dX6_offTimes_54 (by decide) ?_
  exact s_sub [0, 1, 2, 3, 4] rfl (hk5 x0 x1 x2 v1_ v2_ h)
set_option maxRecDepth 20000 in
theorem t_X6_offTimes_48 {X : Cx} (o : Ok X RX6 cX6_offTimes 5 1 26 0 0 (some .int)) (f : Nat) {k5 : Nat → Int32 → Int32 → Int32 → Int32 → Hp → Option (Int32 × Hp)} (hk5 : ∀ (x0 : Nat) (x1 : Int32) (x2 : Int32) (x3 : Int32) (x4 : Int32) (h : Hp), Sim X (z_Zi X 0 0) 0 0 5 [(0, rf (xG X) x0), (1, .int x1), (2, .int x2), (3, .int x3), (4, .int x4)] [] h (k5 x0 x1 x2 x3 x4 h)) (x0 : Nat) (x1 : Int32) (x2 : Int32) (x4 : Int32) (y0 : Int32) (h : Hp) : Sim X (z_Zi X 0 0) 0 0 48 [(0, rf (xG X) x0), (1, .int x1), (2, .int x2), (4, .int x4)] [.int y0] h (b_X6_offTimes_48 f k5 x0 x1 x2 x4 y0 h) := by
  unfold b_X6_offTimes_48
  refine s_iconst o dX6_offTimes_48 (v := (0 : Int32)) (by decide) (q := 49) rfl ?_
  exact s_sub [0, 1, 2, 3] rfl (t_X6_offTimes_49 o f hk5 x0 x1 x2 x4 y0 (0 : Int32) h)
set_option maxRecDepth 20000 in
theorem t_X6_offTimes_5 {X : Cx} (o : Ok X RX6 cX6_offTimes 5 1 26 0 0 (some .int)) (f : Nat) {k5 : Nat → Int32 → Int32 → Int32 → Int32 → Hp → Option (Int32 × Hp)} (hk5 : ∀ (x0 : Nat) (x1 : Int32) (x2 : Int32) (x3 : Int32) (x4 : Int32) (h : Hp), Sim X (z_Zi X 0 0) 0 0 5 [(0, rf (xG X) x0), (1, .int x1), (2, .int x2), (3, .int x3), (4, .int x4)] [] h (k5 x0 x1 x2 x3 x4 h)) (x0 : Nat) (x1 : Int32) (x2 : Int32) (x3 : Int32) (x4 : Int32) (h : Hp) : Sim X (z_Zi X 0 0) 0 0 5 [(0, rf (xG X) x0), (1, .int x1), (2, .int x2), (3, .int x3), (4, .int x4)] [] h (b_X6_offTimes_5 f k5 x0 x1 x2 x3 x4 h) := by
  unfold b_X6_offTimes_5
  refine s_iload o 4 rfl dX6_offTimes_5 (q := 7) rfl ?_
  refine s_aload_n o 0 rfl dX6_offTimes_7 (q := 8) rfl ?_
  refine s_gi o kf_X6_111 dX6_offTimes_8 (q := 11) rfl (fun v1_ => ?_)
  refine s_ic_ge o (tgt := 57) dX6_offTimes_11 (by decide) (q := 14) rfl ?_ ?_
  · refine s_iload_n o 3 rfl dX6_offTimes_57 (q := 58) rfl ?_
    exact s_iret o dX6_offTimes_58
  · refine s_iload_n o 3 rfl dX6_offTimes_14 (q := 15) rfl ?_
    refine s_aload_n o 0 rfl dX6_offTimes_15 (q := 16) rfl ?_
    refine s_gr o kf_X6_32 dX6_offTimes_16 (q := 19) rfl (fun a2_ => ?_)
    refine s_bipush o dX6_offTimes_19 (v := (6 : Int32)) (by decide) (q := 21) rfl ?_
    refine s_iload_n o 1 rfl dX6_offTimes_21 (q := 22) rfl ?_
    refine s_imul o dX6_offTimes_22 (q := 23) rfl ?_
    refine s_iload_n o 2 rfl dX6_offTimes_23 (q := 24) rfl ?_
    refine s_iadd o dX6_offTimes_24 (q := 25) rfl ?_
    refine s_iald o dX6_offTimes_25 (q := 26) rfl (fun v3_ => ?_)
    refine s_iload o 4 rfl dX6_offTimes_26 (q := 28) rfl ?_
    refine s_bi (fun r0 hr0 => runS o cs_X6_182 (c_X6_has (xG X) f v3_ x4 h (xl X) r0 hr0) ⟨Nat.le_of_ble_eq_true rfl, Nat.le_of_ble_eq_true rfl⟩ rfl rfl (Nat.le_of_ble_eq_true rfl) dX6_offTimes_28 ⟨Nat.le_of_ble_eq_true rfl, Nat.le_of_ble_eq_true rfl⟩) (q := 31) rfl (cs' := 0) rfl (sl' := 0) rfl (fun v5_ h4_ => ?_)
    refine s_if_eq o (tgt := 48) dX6_offTimes_31 (by decide) (q := 34) rfl ?_ ?_
    · exact s_sub [0, 1, 2, 4] rfl (t_X6_offTimes_48 o f hk5 x0 x1 x2 x4 x3 h4_)
    · refine s_aload_n o 0 rfl dX6_offTimes_34 (q := 35) rfl ?_
      refine s_iload_n o 2 rfl dX6_offTimes_35 (q := 36) rfl ?_
      refine s_iload o 4 rfl dX6_offTimes_36 (q := 38) rfl ?_
      refine s_on (fun hk6_ => ?_)
      refine s_bi (fun r0 hr0 => runV o hk6_ cv_X6_274 (c_X6_isApart (xG X) f x0 x2 x4 h4_ (xl X) r0 hr0) ⟨Nat.le_of_ble_eq_true rfl, Nat.le_of_ble_eq_true rfl⟩ rfl rfl (Nat.le_of_ble_eq_true rfl) dX6_offTimes_38 ⟨Nat.le_of_ble_eq_true rfl, Nat.le_of_ble_eq_true rfl⟩) (q := 41) rfl (cs' := 0) rfl (sl' := 0) rfl (fun v8_ h7_ => ?_)
      refine s_if_eq o (tgt := 48) dX6_offTimes_41 (by decide) (q := 44) rfl ?_ ?_
      · exact s_sub [0, 1, 2, 4] rfl (t_X6_offTimes_48 o f hk5 x0 x1 x2 x4 x3 h7_)
      · refine s_iconst o dX6_offTimes_44 (v := (1 : Int32)) (by decide) (q := 45) rfl ?_
        refine s_goto o (tgt := 49) dX6_offTimes_45 (by decide) ?_
        exact s_sub [0, 1, 2, 4] rfl (t_X6_offTimes_49 o f hk5 x0 x1 x2 x4 x3 (1 : Int32) h7_)
theorem tl_X6_offTimes_5 {X : Cx} (o : Ok X RX6 cX6_offTimes 5 1 26 0 0 (some .int)) (f : Nat)  : ∀ (n : Nat) (x0 : Nat) (x1 : Int32) (x2 : Int32) (x3 : Int32) (x4 : Int32) (h : Hp), Sim X (z_Zi X 0 0) 0 0 5 [(0, rf (xG X) x0), (1, .int x1), (2, .int x2), (3, .int x3), (4, .int x4)] [] h (l_X6_offTimes_5 f n x0 x1 x2 x3 x4 h) := by
  intro n
  induction n with
  | zero => intro x0 x1 x2 x3 x4 h; exact s_none
  | succ n ih => intro x0 x1 x2 x3 x4 h; exact t_X6_offTimes_5 o f  ih x0 x1 x2 x3 x4 h
set_option maxRecDepth 20000 in
theorem t_X6_offTimes_0 {X : Cx} (o : Ok X RX6 cX6_offTimes 5 1 26 0 0 (some .int)) (f : Nat)  (x0 : Nat) (x1 : Int32) (x2 : Int32) (h : Hp) : Sim X (z_Zi X 0 0) 0 0 0 [(0, rf (xG X) x0), (1, .int x1), (2, .int x2)] [] h (f_X6_offTimes f x0 x1 x2 h) := by
  unfold f_X6_offTimes
  refine s_iconst o dX6_offTimes_0 (v := (0 : Int32)) (by decide) (q := 1) rfl ?_
  refine s_istore_n o [1, 2, 3, 0] (lv' := [(0, rf (xG X) x0), (1, .int x1), (2, .int x2), (3, .int (0 : Int32))]) rfl dX6_offTimes_1 (by decide) (q := 2) rfl ?_
  refine s_iconst o dX6_offTimes_2 (v := (0 : Int32)) (by decide) (q := 3) rfl ?_
  refine s_istore o [1, 2, 3, 4, 0] (lv' := [(0, rf (xG X) x0), (1, .int x1), (2, .int x2), (3, .int (0 : Int32)), (4, .int (0 : Int32))]) rfl dX6_offTimes_3 (by decide) (q := 5) rfl ?_
  exact s_sub [0, 1, 2, 3, 4] rfl (tl_X6_offTimes_5 o f f x0 x1 x2 (0 : Int32) (0 : Int32) h)
theorem c_X6_offTimes (G : Gx) (f : Nat) (x0 : Nat) (x1 : Int32) (x2 : Int32) (h : Hp) : z_M z_qi G yX6_offTimes cX6_offTimes 5 (some .int) 1 26 0 0 [rf G x0, .int x1, .int x2] h (f_X6_offTimes f x0 x1 x2 h) :=
  z_met (by decide +kernel) (Nat.le_of_ble_eq_true rfl) (fun X hG hn o hnm => by
    subst hG
    show Sim X (z_Zi X 0 0) 0 0 0 [(0, rf (xG X) x0), (1, .int x1), (2, .int x2)] [] h _
    exact s_sub [0, 1, 2] rfl (t_X6_offTimes_0 o f x0 x1 x2 h))
/-! SixMapsModel.size(I)I -/
def b_X6_size_10 (f : Nat)  (y0 : Int32) (h : Hp) : Option (Int32 × Hp) :=
  some (y0, h)
def f_X6_size (f : Nat)  (x0 : Int32) (h : Hp) : Option (Int32 × Hp) :=
  if 0 ≤ x0 then
  (b_X6_size_10 f x0 h)
  else
  (b_X6_size_10 f (-x0) h)
set_option maxRecDepth 20000 in
theorem t_X6_size_10 {X : Cx} (o : Ok X RX6 cX6_size 1 0 0 0 0 (some .int)) (f : Nat)  (y0 : Int32) (h : Hp) : Sim X (z_Zi X 0 0) 0 0 10 [] [.int y0] h (b_X6_size_10 f y0 h) := by
  unfold b_X6_size_10
  exact s_iret o dX6_size_10
set_option maxRecDepth 20000 in
theorem t_X6_size_0 {X : Cx} (o : Ok X RX6 cX6_size 1 0 0 0 0 (some .int)) (f : Nat)  (x0 : Int32) (h : Hp) : Sim X (z_Zi X 0 0) 0 0 0 [(0, .int x0)] [] h (f_X6_size f x0 h) := by
  unfold f_X6_size
  refine s_iload_n o 0 rfl dX6_size_0 (q := 1) rfl ?_
  refine s_if_ge o (tgt := 9) dX6_size_1 (by decide) (q := 4) rfl ?_ ?_
  · refine s_iload_n o 0 rfl dX6_size_9 (q := 10) rfl ?_
    exact s_sub [] rfl (t_X6_size_10 o f x0 h)
  · refine s_iload_n o 0 rfl dX6_size_4 (q := 5) rfl ?_
    refine s_ineg o dX6_size_5 (q := 6) rfl ?_
    refine s_goto o (tgt := 10) dX6_size_6 (by decide) ?_
    exact s_sub [] rfl (t_X6_size_10 o f (-x0) h)
theorem c_X6_size (G : Gx) (f : Nat) (x0 : Int32) (h : Hp) : z_M z_qi G yX6_size cX6_size 1 (some .int) 0 0 0 0 [.int x0] h (f_X6_size f x0 h) :=
  z_met (by decide +kernel) (Nat.le_of_ble_eq_true rfl) (fun X hG hn o hnm => by
    subst hG
    show Sim X (z_Zi X 0 0) 0 0 0 [(0, .int x0)] [] h _
    exact s_sub [0] rfl (t_X6_size_0 o f x0 h))
/-! SixMapsModel.quarrels(II)I -/
def b_X6_quarrels_249 (f : Nat)  (x5 : Int32) (h : Hp) : Option (Int32 × Hp) :=
  some (x5, h)
def b_X6_quarrels_240 (f : Nat) (k65 : Nat → Int32 → Int32 → Int32 → Int32 → Int32 → Hp → Option (Int32 × Hp)) (x0 : Nat) (x1 : Int32) (x3 : Int32) (x4 : Int32) (x6 : Int32) (y0 : Int32) (y1 : Int32) (h : Hp) : Option (Int32 × Hp) :=
  lt (y0 + y1) fun v1_ =>
  lt (x6 + (1 : Int32)) fun v2_ =>
  k65 x0 x1 x3 x4 v1_ v2_ h
def b_X6_quarrels_239 (f : Nat) (k65 : Nat → Int32 → Int32 → Int32 → Int32 → Int32 → Hp → Option (Int32 × Hp)) (x0 : Nat) (x1 : Int32) (x3 : Int32) (x4 : Int32) (x6 : Int32) (y0 : Int32) (h : Hp) : Option (Int32 × Hp) :=
  b_X6_quarrels_240 f k65 x0 x1 x3 x4 x6 y0 (0 : Int32) h
def b_X6_quarrels_221 (f : Nat) (k65 : Nat → Int32 → Int32 → Int32 → Int32 → Int32 → Hp → Option (Int32 × Hp)) (x0 : Nat) (x1 : Int32) (x3 : Int32) (x4 : Int32) (x5 : Int32) (x6 : Int32) (x7 : Int32) (y0 : Int32) (h : Hp) : Option (Int32 × Hp) :=
  if x7 = 0 then
  (b_X6_quarrels_239 f k65 x0 x1 x3 x4 x6 x5 h)
  else
  (if y0 = 0 then
  (b_X6_quarrels_239 f k65 x0 x1 x3 x4 x6 x5 h)
  else
  (b_X6_quarrels_240 f k65 x0 x1 x3 x4 x6 x5 (1 : Int32) h))
def b_X6_quarrels_216 (f : Nat) (k65 : Nat → Int32 → Int32 → Int32 → Int32 → Int32 → Hp → Option (Int32 × Hp)) (x0 : Nat) (x1 : Int32) (x3 : Int32) (x4 : Int32) (x5 : Int32) (x6 : Int32) (x7 : Int32) (h : Hp) : Option (Int32 × Hp) :=
  b_X6_quarrels_221 f k65 x0 x1 x3 x4 x5 x6 x7 (1 : Int32) h
def b_X6_quarrels_138 (f : Nat) (k65 : Nat → Int32 → Int32 → Int32 → Int32 → Int32 → Hp → Option (Int32 × Hp)) (x0 : Nat) (x1 : Int32) (x3 : Int32) (x4 : Int32) (x5 : Int32) (x6 : Int32) (y0 : Int32) (h : Hp) : Option (Int32 × Hp) :=
  (q_gr h x0 6 3).bind fun a1_ =>
  (q_ai h a1_ 9 (((9 : Int32) * x3) + x6)).bind fun v2_ =>
  (q_gr h x0 6 3).bind fun a3_ =>
  (q_ai h a3_ 9 (((9 : Int32) * x4) + x6)).bind fun v4_ =>
  bi (f_X6_size f (v2_ - v4_) h) fun v6_ h5_ =>
  (q_gi h5_ x0 6 7).bind fun v7_ =>
  if ((2 : Int32) * v7_) < v6_ then
  (b_X6_quarrels_216 f k65 x0 x1 x3 x4 x5 x6 y0 h5_)
  else
  ((q_gr h5_ x0 6 4).bind fun a8_ =>
  (q_ai h5_ a8_ 9 (((9 : Int32) * x3) + x6)).bind fun v9_ =>
  (q_gr h5_ x0 6 4).bind fun a10_ =>
  (q_ai h5_ a10_ 9 (((9 : Int32) * x4) + x6)).bind fun v11_ =>
  bi (f_X6_size f (v9_ - v11_) h5_) fun v13_ h12_ =>
  (q_gi h12_ x0 6 7).bind fun v14_ =>
  if v13_ ≤ ((2 : Int32) * v14_) then
  (b_X6_quarrels_221 f k65 x0 x1 x3 x4 x5 x6 y0 (0 : Int32) h12_)
  else
  (b_X6_quarrels_216 f k65 x0 x1 x3 x4 x5 x6 y0 h12_))
def b_X6_quarrels_137 (f : Nat) (k65 : Nat → Int32 → Int32 → Int32 → Int32 → Int32 → Hp → Option (Int32 × Hp)) (x0 : Nat) (x1 : Int32) (x3 : Int32) (x4 : Int32) (x5 : Int32) (x6 : Int32) (h : Hp) : Option (Int32 × Hp) :=
  b_X6_quarrels_138 f k65 x0 x1 x3 x4 x5 x6 (0 : Int32) h
def b_X6_quarrels_65 (f : Nat) (k65 : Nat → Int32 → Int32 → Int32 → Int32 → Int32 → Hp → Option (Int32 × Hp)) (x0 : Nat) (x1 : Int32) (x3 : Int32) (x4 : Int32) (x5 : Int32) (x6 : Int32) (h : Hp) : Option (Int32 × Hp) :=
  (q_gi h x0 6 0).bind fun v1_ =>
  if v1_ ≤ x6 then
  (b_X6_quarrels_249 f x5 h)
  else
  (if x3 < 0 then
  (b_X6_quarrels_249 f x5 h)
  else
  (if x4 = x3 then
  (b_X6_quarrels_249 f x5 h)
  else
  ((q_gr h x0 6 41).bind fun a2_ =>
  (q_ai h a2_ 10 x6).bind fun v3_ =>
  if v3_ = 0 then
  (b_X6_quarrels_137 f k65 x0 x1 x3 x4 x5 x6 h)
  else
  ((q_gr h x0 6 11).bind fun a4_ =>
  (q_ai h a4_ 9 (((6 : Int32) * x1) + x3)).bind fun v5_ =>
  bi (f_X6_has f v5_ x6 h) fun v7_ h6_ =>
  if v7_ = 0 then
  (b_X6_quarrels_137 f k65 x0 x1 x3 x4 x5 x6 h6_)
  else
  ((q_gr h6_ x0 6 11).bind fun a8_ =>
  (q_ai h6_ a8_ 9 (((6 : Int32) * x1) + x4)).bind fun v9_ =>
  bi (f_X6_has f v9_ x6 h6_) fun v11_ h10_ =>
  if v11_ = 0 then
  (b_X6_quarrels_137 f k65 x0 x1 x3 x4 x5 x6 h10_)
  else
  (b_X6_quarrels_138 f k65 x0 x1 x3 x4 x5 x6 (1 : Int32) h10_))))))
def l_X6_quarrels_65 (f : Nat)  : Nat → Nat → Int32 → Int32 → Int32 → Int32 → Int32 → Hp → Option (Int32 × Hp)
  | 0, _, _, _, _, _, _, _ => none
  | n + 1, x0, x1, x3, x4, x5, x6, h => b_X6_quarrels_65 f  (l_X6_quarrels_65 f  n) x0 x1 x3 x4 x5 x6 h
def b_X6_quarrels_52 (f : Nat) (k8 : Nat → Int32 → Int32 → Int32 → Int32 → Int32 → Hp → Option (Int32 × Hp)) (x0 : Nat) (x1 : Int32) (x2 : Int32) (x4 : Int32) (x5 : Int32) (y0 : Int32) (h : Hp) : Option (Int32 × Hp) :=
  lt (x5 + (1 : Int32)) fun v1_ =>
  k8 x0 x1 x2 y0 x4 v1_ h
def b_X6_quarrels_51 (f : Nat) (k8 : Nat → Int32 → Int32 → Int32 → Int32 → Int32 → Hp → Option (Int32 × Hp)) (x0 : Nat) (x1 : Int32) (x2 : Int32) (x3 : Int32) (x4 : Int32) (x5 : Int32) (h : Hp) : Option (Int32 × Hp) :=
  b_X6_quarrels_52 f k8 x0 x1 x2 x4 x5 x3 h
def b_X6_quarrels_31 (f : Nat) (k8 : Nat → Int32 → Int32 → Int32 → Int32 → Int32 → Hp → Option (Int32 × Hp)) (x0 : Nat) (x1 : Int32) (x2 : Int32) (x3 : Int32) (x5 : Int32) (y0 : Int32) (h : Hp) : Option (Int32 × Hp) :=
  bi (f_X6_has f x2 x5 h) fun v2_ h1_ =>
  if v2_ = 0 then
  (b_X6_quarrels_51 f k8 x0 x1 x2 x3 y0 x5 h1_)
  else
  (if 0 ≤ x3 then
  (b_X6_quarrels_51 f k8 x0 x1 x2 x3 y0 x5 h1_)
  else
  (b_X6_quarrels_52 f k8 x0 x1 x2 y0 x5 x5 h1_))
def b_X6_quarrels_8 (f : Nat) (k8 : Nat → Int32 → Int32 → Int32 → Int32 → Int32 → Hp → Option (Int32 × Hp)) (x0 : Nat) (x1 : Int32) (x2 : Int32) (x3 : Int32) (x4 : Int32) (x5 : Int32) (h : Hp) : Option (Int32 × Hp) :=
  if (6 : Int32) ≤ x5 then
  (l_X6_quarrels_65 f f x0 x1 x3 x4 (0 : Int32) (0 : Int32) h)
  else
  (bi (f_X6_has f x2 x5 h) fun v2_ h1_ =>
  if v2_ = 0 then
  (b_X6_quarrels_31 f k8 x0 x1 x2 x3 x5 x4 h1_)
  else
  (b_X6_quarrels_31 f k8 x0 x1 x2 x3 x5 x5 h1_))
def l_X6_quarrels_8 (f : Nat)  : Nat → Nat → Int32 → Int32 → Int32 → Int32 → Int32 → Hp → Option (Int32 × Hp)
  | 0, _, _, _, _, _, _, _ => none
  | n + 1, x0, x1, x2, x3, x4, x5, h => b_X6_quarrels_8 f  (l_X6_quarrels_8 f  n) x0 x1 x2 x3 x4 x5 h
def f_X6_quarrels (f : Nat)  (x0 : Nat) (x1 : Int32) (x2 : Int32) (h : Hp) : Option (Int32 × Hp) :=
  l_X6_quarrels_8 f f x0 x1 x2 (-1 : Int32) (-1 : Int32) (0 : Int32) h
set_option maxRecDepth 20000 in
theorem t_X6_quarrels_249 {X : Cx} (o : Ok X RX6 cX6_quarrels 9 1 21 0 0 (some .int)) (f : Nat)  (x5 : Int32) (h : Hp) : Sim X (z_Zi X 0 0) 0 0 249 [(5, .int x5)] [] h (b_X6_quarrels_249 f x5 h) := by
  unfold b_X6_quarrels_249
  refine s_iload o 0 rfl dX6_quarrels_249 (q := 251) rfl ?_
  exact s_iret o dX6_quarrels_251
set_option maxRecDepth 20000 in
theorem t_X6_quarrels_240 {X : Cx} (o : Ok X RX6 cX6_quarrels 9 1 21 0 0 (some .int)) (f : Nat) {k65 : Nat → Int32 → Int32 → Int32 → Int32 → Int32 → Hp → Option (Int32 × Hp)} (hk65 : ∀ (x0 : Nat) (x1 : Int32) (x3 : Int32) (x4 : Int32) (x5 : Int32) (x6 : Int32) (h : Hp), Sim X (z_Zi X 0 0) 0 0 65 [(0, rf (xG X) x0), (1, .int x1), (3, .int x3), (4, .int x4), (5, .int x5), (6, .int x6)] [] h (k65 x0 x1 x3 x4 x5 x6 h)) (x0 : Nat) (x1 : Int32) (x3 : Int32) (x4 : Int32) (x6 : Int32) (y0 : Int32) (y1 : Int32) (h : Hp) : Sim X (z_Zi X 0 0) 0 0 240 [(0, rf (xG X) x0), (1, .int x1), (3, .int x3), (4, .int x4), (6, .int x6)] [.int y1, .int y0] h (b_X6_quarrels_240 f k65 x0 x1 x3 x4 x6 y0 y1 h) := by
  unfold b_X6_quarrels_240
  refine s_iadd o dX6_quarrels_240 (q := 241) rfl ?_
  refine s_let (fun v1_ => ?_)
  refine s_istore o [1, 2, 3, 4, 0, 5] (lv' := [(0, rf (xG X) x0), (1, .int x1), (3, .int x3), (4, .int x4), (5, .int v1_), (6, .int x6)]) rfl dX6_quarrels_241 (by decide) (q := 243) rfl ?_
  refine s_iinc o 5 rfl (v := (1 : Int32)) (by decide) [1, 2, 3, 4, 5, 0] (lv' := fun v2_ => [(0, rf (xG X) x0), (1, .int x1), (3, .int x3), (4, .int x4), (5, .int v1_), (6, .int v2_)]) (fun _ => rfl) dX6_quarrels_243 (by decide) (q := 246) rfl (fun v2_ => ?_)
  refine s_goto o (tgt := 65) dX6_quarrels_246 (by decide) ?_
  exact s_sub [0, 1, 2, 3, 4, 5] rfl (hk65 x0 x1 x3 x4 v1_ v2_ h)
set_option maxRecDepth 20000 in
theorem t_X6_quarrels_239 {X : Cx} (o : Ok X RX6 cX6_quarrels 9 1 21 0 0 (some .int)) (f : Nat) {k65 : Nat → Int32 → Int32 → Int32 → Int32 → Int32 → Hp → Option (Int32 × Hp)} (hk65 : ∀ (x0 : Nat) (x1 : Int32) (x3 : Int32) (x4 : Int32) (x5 : Int32) (x6 : Int32) (h : Hp), Sim X (z_Zi X 0 0) 0 0 65 [(0, rf (xG X) x0), (1, .int x1), (3, .int x3), (4, .int x4), (5, .int x5), (6, .int x6)] [] h (k65 x0 x1 x3 x4 x5 x6 h)) (x0 : Nat) (x1 : Int32) (x3 : Int32) (x4 : Int32) (x6 : Int32) (y0 : Int32) (h : Hp) : Sim X (z_Zi X 0 0) 0 0 239 [(0, rf (xG X) x0), (1, .int x1), (3, .int x3), (4, .int x4), (6, .int x6)] [.int y0] h (b_X6_quarrels_239 f k65 x0 x1 x3 x4 x6 y0 h) := by
  unfold b_X6_quarrels_239
  refine s_iconst o dX6_quarrels_239 (v := (0 : Int32)) (by decide) (q := 240) rfl ?_
  exact s_sub [0, 1, 2, 3, 4] rfl (t_X6_quarrels_240 o f hk65 x0 x1 x3 x4 x6 y0 (0 : Int32) h)
set_option maxRecDepth 20000 in
theorem t_X6_quarrels_221 {X : Cx} (o : Ok X RX6 cX6_quarrels 9 1 21 0 0 (some .int)) (f : Nat) {k65 : Nat → Int32 → Int32 → Int32 → Int32 → Int32 → Hp → Option (Int32 × Hp)} (hk65 : ∀ (x0 : Nat) (x1 : Int32) (x3 : Int32) (x4 : Int32) (x5 : Int32) (x6 : Int32) (h : Hp), Sim X (z_Zi X 0 0) 0 0 65 [(0, rf (xG X) x0), (1, .int x1), (3, .int x3), (4, .int x4), (5, .int x5), (6, .int x6)] [] h (k65 x0 x1 x3 x4 x5 x6 h)) (x0 : Nat) (x1 : Int32) (x3 : Int32) (x4 : Int32) (x5 : Int32) (x6 : Int32) (x7 : Int32) (y0 : Int32) (h : Hp) : Sim X (z_Zi X 0 0) 0 0 221 [(0, rf (xG X) x0), (1, .int x1), (3, .int x3), (4, .int x4), (5, .int x5), (6, .int x6), (7, .int x7)] [.int y0] h (b_X6_quarrels_221 f k65 x0 x1 x3 x4 x5 x6 x7 y0 h) := by
  unfold b_X6_quarrels_221
  refine s_istore o [1, 2, 3, 4, 5, 6, 7, 0] (lv' := [(0, rf (xG X) x0), (1, .int x1), (3, .int x3), (4, .int x4), (5, .int x5), (6, .int x6), (7, .int x7), (8, .int y0)]) rfl dX6_quarrels_221 (by decide) (q := 223) rfl ?_
  refine s_iload o 4 rfl dX6_quarrels_223 (q := 225) rfl ?_
  refine s_iload o 6 rfl dX6_quarrels_225 (q := 227) rfl ?_
  refine s_if_eq o (tgt := 239) dX6_quarrels_227 (by decide) (q := 230) rfl ?_ ?_
  · exact s_sub [0, 1, 2, 3, 5] rfl (t_X6_quarrels_239 o f hk65 x0 x1 x3 x4 x6 x5 h)
  · refine s_iload o 7 rfl dX6_quarrels_230 (q := 232) rfl ?_
    refine s_if_eq o (tgt := 239) dX6_quarrels_232 (by decide) (q := 235) rfl ?_ ?_
    · exact s_sub [0, 1, 2, 3, 5] rfl (t_X6_quarrels_239 o f hk65 x0 x1 x3 x4 x6 x5 h)
    · refine s_iconst o dX6_quarrels_235 (v := (1 : Int32)) (by decide) (q := 236) rfl ?_
      refine s_goto o (tgt := 240) dX6_quarrels_236 (by decide) ?_
      exact s_sub [0, 1, 2, 3, 5] rfl (t_X6_quarrels_240 o f hk65 x0 x1 x3 x4 x6 x5 (1 : Int32) h)
set_option maxRecDepth 20000 in
theorem t_X6_quarrels_216 {X : Cx} (o : Ok X RX6 cX6_quarrels 9 1 21 0 0 (some .int)) (f : Nat) {k65 : Nat → Int32 → Int32 → Int32 → Int32 → Int32 → Hp → Option (Int32 × Hp)} (hk65 : ∀ (x0 : Nat) (x1 : Int32) (x3 : Int32) (x4 : Int32) (x5 : Int32) (x6 : Int32) (h : Hp), Sim X (z_Zi X 0 0) 0 0 65 [(0, rf (xG X) x0), (1, .int x1), (3, .int x3), (4, .int x4), (5, .int x5), (6, .int x6)] [] h (k65 x0 x1 x3 x4 x5 x6 h)) (x0 : Nat) (x1 : Int32) (x3 : Int32) (x4 : Int32) (x5 : Int32) (x6 : Int32) (x7 : Int32) (h : Hp) : Sim X (z_Zi X 0 0) 0 0 216 [(0, rf (xG X) x0), (1, .int x1), (3, .int x3), (4, .int x4), (5, .int x5), (6, .int x6), (7, .int x7)] [] h (b_X6_quarrels_216 f k65 x0 x1 x3 x4 x5 x6 x7 h) := by
  unfold b_X6_quarrels_216
  refine s_iconst o dX6_quarrels_216 (v := (1 : Int32)) (by decide) (q := 217) rfl ?_
  refine s_goto o (tgt := 221) dX6_quarrels_217 (by decide) ?_
  exact s_sub [0, 1, 2, 3, 4, 5, 6] rfl (t_X6_quarrels_221 o f hk65 x0 x1 x3 x4 x5 x6 x7 (1 : Int32) h)
set_option maxRecDepth 20000 in
theorem t_X6_quarrels_138 {X : Cx} (o : Ok X RX6 cX6_quarrels 9 1 21 0 0 (some .int)) (f : Nat) {k65 : Nat → Int32 → Int32 → Int32 → Int32 → Int32 → Hp → Option (Int32 × Hp)} (hk65 : ∀ (x0 : Nat) (x1 : Int32) (x3 : Int32) (x4 : Int32) (x5 : Int32) (x6 : Int32) (h : Hp), Sim X (z_Zi X 0 0) 0 0 65 [(0, rf (xG X) x0), (1, .int x1), (3, .int x3), (4, .int x4), (5, .int x5), (6, .int x6)] [] h (k65 x0 x1 x3 x4 x5 x6 h)) (x0 : Nat) (x1 : Int32) (x3 : Int32) (x4 : Int32) (x5 : Int32) (x6 : Int32) (y0 : Int32) (h : Hp) : Sim X (z_Zi X 0 0) 0 0 138 [(0, rf (xG X) x0), (1, .int x1), (3, .int x3), (4, .int x4), (5, .int x5), (6, .int x6)] [.int y0] h (b_X6_quarrels_138 f k65 x0 x1 x3 x4 x5 x6 y0 h) := by
  unfold b_X6_quarrels_138
  refine s_istore o [1, 2, 3, 4, 5, 6, 0] (lv' := [(0, rf (xG X) x0), (1, .int x1), (3, .int x3), (4, .int x4), (5, .int x5), (6, .int x6), (7, .int y0)]) rfl dX6_quarrels_138 (by decide) (q := 140) rfl ?_
  refine s_aload_n o 0 rfl dX6_quarrels_140 (q := 141) rfl ?_
  refine s_gr o kf_X6_16 dX6_quarrels_141 (q := 144) rfl (fun a1_ => ?_)
  refine s_bipush o dX6_quarrels_144 (v := (9 : Int32)) (by decide) (q := 146) rfl ?_
  refine s_iload_n o 2 rfl dX6_quarrels_146 (q := 147) rfl ?_
  refine s_imul o dX6_quarrels_147 (q := 148) rfl ?_
  refine s_iload o 5 rfl dX6_quarrels_148 (q := 150) rfl ?_
  refine s_iadd o dX6_quarrels_150 (q := 151) rfl ?_
  refine s_iald o dX6_quarrels_151 (q := 152) rfl (fun v2_ => ?_)
  refine s_aload_n o 0 rfl dX6_quarrels_152 (q := 153) rfl ?_
  refine s_gr o kf_X6_16 dX6_quarrels_153 (q := 156) rfl (fun a3_ => ?_)
  refine s_bipush o dX6_quarrels_156 (v := (9 : Int32)) (by decide) (q := 158) rfl ?_
  refine s_iload o 3 rfl dX6_quarrels_158 (q := 160) rfl ?_
  refine s_imul o dX6_quarrels_160 (q := 161) rfl ?_
  refine s_iload o 5 rfl dX6_quarrels_161 (q := 163) rfl ?_
  refine s_iadd o dX6_quarrels_163 (q := 164) rfl ?_
  refine s_iald o dX6_quarrels_164 (q := 165) rfl (fun v4_ => ?_)
  refine s_isub o dX6_quarrels_165 (q := 166) rfl ?_
  refine s_bi (fun r0 hr0 => runS o cs_X6_193 (c_X6_size (xG X) f (v2_ - v4_) h (xl X) r0 hr0) ⟨Nat.le_of_ble_eq_true rfl, Nat.le_of_ble_eq_true rfl⟩ rfl rfl (Nat.le_of_ble_eq_true rfl) dX6_quarrels_166 ⟨Nat.le_of_ble_eq_true rfl, Nat.le_of_ble_eq_true rfl⟩) (q := 169) rfl (cs' := 0) rfl (sl' := 0) rfl (fun v6_ h5_ => ?_)
  refine s_iconst o dX6_quarrels_169 (v := (2 : Int32)) (by decide) (q := 170) rfl ?_
  refine s_aload_n o 0 rfl dX6_quarrels_170 (q := 171) rfl ?_
  refine s_gi o kf_X6_256 dX6_quarrels_171 (q := 174) rfl (fun v7_ => ?_)
  refine s_imul o dX6_quarrels_174 (q := 175) rfl ?_
  refine s_ic_gt o (tgt := 216) dX6_quarrels_175 (by decide) (q := 178) rfl ?_ ?_
  · exact s_sub [0, 1, 2, 3, 4, 5, 6] rfl (t_X6_quarrels_216 o f hk65 x0 x1 x3 x4 x5 x6 y0 h5_)
  · refine s_aload_n o 0 rfl dX6_quarrels_178 (q := 179) rfl ?_
    refine s_gr o kf_X6_19 dX6_quarrels_179 (q := 182) rfl (fun a8_ => ?_)
    refine s_bipush o dX6_quarrels_182 (v := (9 : Int32)) (by decide) (q := 184) rfl ?_
    refine s_iload_n o 2 rfl dX6_quarrels_184 (q := 185) rfl ?_
    refine s_imul o dX6_quarrels_185 (q := 186) rfl ?_
    refine s_iload o 5 rfl dX6_quarrels_186 (q := 188) rfl ?_
    refine s_iadd o dX6_quarrels_188 (q := 189) rfl ?_
    refine s_iald o dX6_quarrels_189 (q := 190) rfl (fun v9_ => ?_)
    refine s_aload_n o 0 rfl dX6_quarrels_190 (q := 191) rfl ?_
    refine s_gr o kf_X6_19 dX6_quarrels_191 (q := 194) rfl (fun a10_ => ?_)
    refine s_bipush o dX6_quarrels_194 (v := (9 : Int32)) (by decide) (q := 196) rfl ?_
    refine s_iload o 3 rfl dX6_quarrels_196 (q := 198) rfl ?_
    refine s_imul o dX6_quarrels_198 (q := 199) rfl ?_
    refine s_iload o 5 rfl dX6_quarrels_199 (q := 201) rfl ?_
    refine s_iadd o dX6_quarrels_201 (q := 202) rfl ?_
    refine s_iald o dX6_quarrels_202 (q := 203) rfl (fun v11_ => ?_)
    refine s_isub o dX6_quarrels_203 (q := 204) rfl ?_
    refine s_bi (fun r0 hr0 => runS o cs_X6_193 (c_X6_size (xG X) f (v9_ - v11_) h5_ (xl X) r0 hr0) ⟨Nat.le_of_ble_eq_true rfl, Nat.le_of_ble_eq_true rfl⟩ rfl rfl (Nat.le_of_ble_eq_true rfl) dX6_quarrels_204 ⟨Nat.le_of_ble_eq_true rfl, Nat.le_of_ble_eq_true rfl⟩) (q := 207) rfl (cs' := 0) rfl (sl' := 0) rfl (fun v13_ h12_ => ?_)
    refine s_iconst o dX6_quarrels_207 (v := (2 : Int32)) (by decide) (q := 208) rfl ?_
    refine s_aload_n o 0 rfl dX6_quarrels_208 (q := 209) rfl ?_
    refine s_gi o kf_X6_256 dX6_quarrels_209 (q := 212) rfl (fun v14_ => ?_)
    refine s_imul o dX6_quarrels_212 (q := 213) rfl ?_
    refine s_ic_le o (tgt := 220) dX6_quarrels_213 (by decide) (q := 216) rfl ?_ ?_
    · refine s_iconst o dX6_quarrels_220 (v := (0 : Int32)) (by decide) (q := 221) rfl ?_
      exact s_sub [0, 1, 2, 3, 4, 5, 6] rfl (t_X6_quarrels_221 o f hk65 x0 x1 x3 x4 x5 x6 y0 (0 : Int32) h12_)
    · exact s_sub [0, 1, 2, 3, 4, 5, 6] rfl (t_X6_quarrels_216 o f hk65 x0 x1 x3 x4 x5 x6 y0 h12_)
set_option maxRecDepth 20000 in
theorem t_X6_quarrels_137 {X : Cx} (o : Ok X RX6 cX6_quarrels 9 1 21 0 0 (some .int)) (f : Nat) {k65 : Nat → Int32 → Int32 → Int32 → Int32 → Int32 → Hp → Option (Int32 × Hp)} (hk65 : ∀ (x0 : Nat) (x1 : Int32) (x3 : Int32) (x4 : Int32) (x5 : Int32) (x6 : Int32) (h : Hp), Sim X (z_Zi X 0 0) 0 0 65 [(0, rf (xG X) x0), (1, .int x1), (3, .int x3), (4, .int x4), (5, .int x5), (6, .int x6)] [] h (k65 x0 x1 x3 x4 x5 x6 h)) (x0 : Nat) (x1 : Int32) (x3 : Int32) (x4 : Int32) (x5 : Int32) (x6 : Int32) (h : Hp) : Sim X (z_Zi X 0 0) 0 0 137 [(0, rf (xG X) x0), (1, .int x1), (3, .int x3), (4, .int x4), (5, .int x5), (6, .int x6)] [] h (b_X6_quarrels_137 f k65 x0 x1 x3 x4 x5 x6 h) := by
  unfold b_X6_quarrels_137
  refine s_iconst o dX6_quarrels_137 (v := (0 : Int32)) (by decide) (q := 138) rfl ?_
  exact s_sub [0, 1, 2, 3, 4, 5] rfl (t_X6_quarrels_138 o f hk65 x0 x1 x3 x4 x5 x6 (0 : Int32) h)
set_option maxRecDepth 20000 in
theorem t_X6_quarrels_65 {X : Cx} (o : Ok X RX6 cX6_quarrels 9 1 21 0 0 (some .int)) (f : Nat) {k65 : Nat → Int32 → Int32 → Int32 → Int32 → Int32 → Hp → Option (Int32 × Hp)} (hk65 : ∀ (x0 : Nat) (x1 : Int32) (x3 : Int32) (x4 : Int32) (x5 : Int32) (x6 : Int32) (h : Hp), Sim X (z_Zi X 0 0) 0 0 65 [(0, rf (xG X) x0), (1, .int x1), (3, .int x3), (4, .int x4), (5, .int x5), (6, .int x6)] [] h (k65 x0 x1 x3 x4 x5 x6 h)) (x0 : Nat) (x1 : Int32) (x3 : Int32) (x4 : Int32) (x5 : Int32) (x6 : Int32) (h : Hp) : Sim X (z_Zi X 0 0) 0 0 65 [(0, rf (xG X) x0), (1, .int x1), (3, .int x3), (4, .int x4), (5, .int x5), (6, .int x6)] [] h (b_X6_quarrels_65 f k65 x0 x1 x3 x4 x5 x6 h) := by
  unfold b_X6_quarrels_65
  refine s_iload o 5 rfl dX6_quarrels_65 (q := 67) rfl ?_
  refine s_aload_n o 0 rfl dX6_quarrels_67 (q := 68) rfl ?_
  refine s_gi o kf_X6_111 dX6_quarrels_68 (q := 71) rfl (fun v1_ => ?_)
  refine s_ic_ge o (tgt := 249) dX6_quarrels_71 (by decide) (q := 74) rfl ?_ ?_
  · exact s_sub [4] rfl (t_X6_quarrels_249 o f x5 h)
  · refine s_iload_n o 2 rfl dX6_quarrels_74 (q := 75) rfl ?_
    refine s_if_lt o (tgt := 249) dX6_quarrels_75 (by decide) (q := 78) rfl ?_ ?_
    · exact s_sub [4] rfl (t_X6_quarrels_249 o f x5 h)
    · refine s_iload o 3 rfl dX6_quarrels_78 (q := 80) rfl ?_
      refine s_iload_n o 2 rfl dX6_quarrels_80 (q := 81) rfl ?_
      refine s_ic_eq o (tgt := 249) dX6_quarrels_81 (by decide) (q := 84) rfl ?_ ?_
      · exact s_sub [4] rfl (t_X6_quarrels_249 o f x5 h)
      · refine s_aload_n o 0 rfl dX6_quarrels_84 (q := 85) rfl ?_
        refine s_gr o kf_X6_72 dX6_quarrels_85 (q := 88) rfl (fun a2_ => ?_)
        refine s_iload o 5 rfl dX6_quarrels_88 (q := 90) rfl ?_
        refine s_zald o dX6_quarrels_90 (q := 91) rfl (fun v3_ => ?_)
        refine s_if_eq o (tgt := 137) dX6_quarrels_91 (by decide) (q := 94) rfl ?_ ?_
        · exact s_sub [0, 1, 2, 3, 4, 5] rfl (t_X6_quarrels_137 o f hk65 x0 x1 x3 x4 x5 x6 h)
        · refine s_aload_n o 0 rfl dX6_quarrels_94 (q := 95) rfl ?_
          refine s_gr o kf_X6_32 dX6_quarrels_95 (q := 98) rfl (fun a4_ => ?_)
          refine s_bipush o dX6_quarrels_98 (v := (6 : Int32)) (by decide) (q := 100) rfl ?_
          refine s_iload_n o 1 rfl dX6_quarrels_100 (q := 101) rfl ?_
          refine s_imul o dX6_quarrels_101 (q := 102) rfl ?_
          refine s_iload_n o 2 rfl dX6_quarrels_102 (q := 103) rfl ?_
          refine s_iadd o dX6_quarrels_103 (q := 104) rfl ?_
          refine s_iald o dX6_quarrels_104 (q := 105) rfl (fun v5_ => ?_)
          refine s_iload o 5 rfl dX6_quarrels_105 (q := 107) rfl ?_
          refine s_bi (fun r0 hr0 => runS o cs_X6_182 (c_X6_has (xG X) f v5_ x6 h (xl X) r0 hr0) ⟨Nat.le_of_ble_eq_true rfl, Nat.le_of_ble_eq_true rfl⟩ rfl rfl (Nat.le_of_ble_eq_true rfl) dX6_quarrels_107 ⟨Nat.le_of_ble_eq_true rfl, Nat.le_of_ble_eq_true rfl⟩) (q := 110) rfl (cs' := 0) rfl (sl' := 0) rfl (fun v7_ h6_ => ?_)
          refine s_if_eq o (tgt := 137) dX6_quarrels_110 (by decide) (q := 113) rfl ?_ ?_
          · exact s_sub [0, 1, 2, 3, 4, 5] rfl (t_X6_quarrels_137 o f hk65 x0 x1 x3 x4 x5 x6 h6_)
          · refine s_aload_n o 0 rfl dX6_quarrels_113 (q := 114) rfl ?_
            refine s_gr o kf_X6_32 dX6_quarrels_114 (q := 117) rfl (fun a8_ => ?_)
            refine s_bipush o dX6_quarrels_117 (v := (6 : Int32)) (by decide) (q := 119) rfl ?_
            refine s_iload_n o 1 rfl dX6_quarrels_119 (q := 120) rfl ?_
            refine s_imul o dX6_quarrels_120 (q := 121) rfl ?_
            refine s_iload o 3 rfl dX6_quarrels_121 (q := 123) rfl ?_
            refine s_iadd o dX6_quarrels_123 (q := 124) rfl ?_
            refine s_iald o dX6_quarrels_124 (q := 125) rfl (fun v9_ => ?_)
            refine s_iload o 5 rfl dX6_quarrels_125 (q := 127) rfl ?_
            refine s_bi (fun r0 hr0 => runS o cs_X6_182 (c_X6_has (xG X) f v9_ x6 h6_ (xl X) r0 hr0) ⟨Nat.le_of_ble_eq_true rfl, Nat.le_of_ble_eq_true rfl⟩ rfl rfl (Nat.le_of_ble_eq_true rfl) dX6_quarrels_127 ⟨Nat.le_of_ble_eq_true rfl, Nat.le_of_ble_eq_true rfl⟩) (q := 130) rfl (cs' := 0) rfl (sl' := 0) rfl (fun v11_ h10_ => ?_)
            refine s_if_eq o (tgt := 137) dX6_quarrels_130 (by decide) (q := 133) rfl ?_ ?_
            · exact s_sub [0, 1, 2, 3, 4, 5] rfl (t_X6_quarrels_137 o f hk65 x0 x1 x3 x4 x5 x6 h10_)
            · refine s_iconst o dX6_quarrels_133 (v := (1 : Int32)) (by decide) (q := 134) rfl ?_
              refine s_goto o (tgt := 138) dX6_quarrels_134 (by decide) ?_
              exact s_sub [0, 1, 2, 3, 4, 5] rfl (t_X6_quarrels_138 o f hk65 x0 x1 x3 x4 x5 x6 (1 : Int32) h10_)
theorem tl_X6_quarrels_65 {X : Cx} (o : Ok X RX6 cX6_quarrels 9 1 21 0 0 (some .int)) (f : Nat)  : ∀ (n : Nat) (x0 : Nat) (x1 : Int32) (x3 : Int32) (x4 : Int32) (x5 : Int32) (x6 : Int32) (h : Hp), Sim X (z_Zi X 0 0) 0 0 65 [(0, rf (xG X) x0), (1, .int x1), (3, .int x3), (4, .int x4), (5, .int x5), (6, .int x6)] [] h (l_X6_quarrels_65 f n x0 x1 x3 x4 x5 x6 h) := by
  intro n
  induction n with
  | zero => intro x0 x1 x3 x4 x5 x6 h; exact s_none
  | succ n ih => intro x0 x1 x3 x4 x5 x6 h; exact t_X6_quarrels_65 o f  ih x0 x1 x3 x4 x5 x6 h
set_option maxRecDepth 20000 in
theorem t_X6_quarrels_52 {X : Cx} (o : Ok X RX6 cX6_quarrels 9 1 21 0 0 (some .int)) (f : Nat) {k8 : Nat → Int32 → Int32 → Int32 → Int32 → Int32 → Hp → Option (Int32 × Hp)} (hk8 : ∀ (x0 : Nat) (x1 : Int32) (x2 : Int32) (x3 : Int32) (x4 : Int32) (x5 : Int32) (h : Hp), Sim X (z_Zi X 0 0) 0 0 8 [(0, rf (xG X) x0), (1, .int x1), (2, .int x2), (3, .int x3), (4, .int x4), (5, .int x5)] [] h (k8 x0 x1 x2 x3 x4 x5 h)) (x0 : Nat) (x1 : Int32) (x2 : Int32) (x4 : Int32) (x5 : Int32) (y0 : Int32) (h : Hp) : Sim X (z_Zi X 0 0) 0 0 52 [(0, rf (xG X) x0), (1, .int x1), (2, .int x2), (4, .int x4), (5, .int x5)] [.int y0] h (b_X6_quarrels_52 f k8 x0 x1 x2 x4 x5 y0 h) := by
  unfold b_X6_quarrels_52
  refine s_istore_n o [1, 2, 3, 0, 4, 5] (lv' := [(0, rf (xG X) x0), (1, .int x1), (2, .int x2), (3, .int y0), (4, .int x4), (5, .int x5)]) rfl dX6_quarrels_52 (by decide) (q := 53) rfl ?_
  refine s_iinc o 5 rfl (v := (1 : Int32)) (by decide) [1, 2, 3, 4, 5, 0] (lv' := fun v1_ => [(0, rf (xG X) x0), (1, .int x1), (2, .int x2), (3, .int y0), (4, .int x4), (5, .int v1_)]) (fun _ => rfl) dX6_quarrels_53 (by decide) (q := 56) rfl (fun v1_ => ?_)
  refine s_goto o (tgt := 8) dX6_quarrels_56 (by decide) ?_
  exact s_sub [0, 1, 2, 3, 4, 5] rfl (hk8 x0 x1 x2 y0 x4 v1_ h)
set_option maxRecDepth 20000 in
theorem t_X6_quarrels_51 {X : Cx} (o : Ok X RX6 cX6_quarrels 9 1 21 0 0 (some .int)) (f : Nat) {k8 : Nat → Int32 → Int32 → Int32 → Int32 → Int32 → Hp → Option (Int32 × Hp)} (hk8 : ∀ (x0 : Nat) (x1 : Int32) (x2 : Int32) (x3 : Int32) (x4 : Int32) (x5 : Int32) (h : Hp), Sim X (z_Zi X 0 0) 0 0 8 [(0, rf (xG X) x0), (1, .int x1), (2, .int x2), (3, .int x3), (4, .int x4), (5, .int x5)] [] h (k8 x0 x1 x2 x3 x4 x5 h)) (x0 : Nat) (x1 : Int32) (x2 : Int32) (x3 : Int32) (x4 : Int32) (x5 : Int32) (h : Hp) : Sim X (z_Zi X 0 0) 0 0 51 [(0, rf (xG X) x0), (1, .int x1), (2, .int x2), (3, .int x3), (4, .int x4), (5, .int x5)] [] h (b_X6_quarrels_51 f k8 x0 x1 x2 x3 x4 x5 h) := by
  unfold b_X6_quarrels_51
  refine s_iload_n o 3 rfl dX6_quarrels_51 (q := 52) rfl ?_
  exact s_sub [0, 1, 2, 4, 5] rfl (t_X6_quarrels_52 o f hk8 x0 x1 x2 x4 x5 x3 h)
set_option maxRecDepth 20000 in
theorem t_X6_quarrels_31 {X : Cx} (o : Ok X RX6 cX6_quarrels 9 1 21 0 0 (some .int)) (f : Nat) {k8 : Nat → Int32 → Int32 → Int32 → Int32 → Int32 → Hp → Option (Int32 × Hp)} (hk8 : ∀ (x0 : Nat) (x1 : Int32) (x2 : Int32) (x3 : Int32) (x4 : Int32) (x5 : Int32) (h : Hp), Sim X (z_Zi X 0 0) 0 0 8 [(0, rf (xG X) x0), (1, .int x1), (2, .int x2), (3, .int x3), (4, .int x4), (5, .int x5)] [] h (k8 x0 x1 x2 x3 x4 x5 h)) (x0 : Nat) (x1 : Int32) (x2 : Int32) (x3 : Int32) (x5 : Int32) (y0 : Int32) (h : Hp) : Sim X (z_Zi X 0 0) 0 0 31 [(0, rf (xG X) x0), (1, .int x1), (2, .int x2), (3, .int x3), (5, .int x5)] [.int y0] h (b_X6_quarrels_31 f k8 x0 x1 x2 x3 x5 y0 h) := by
  unfold b_X6_quarrels_31
  refine s_istore o [1, 2, 3, 4, 0, 5] (lv' := [(0, rf (xG X) x0), (1, .int x1), (2, .int x2), (3, .int x3), (4, .int y0), (5, .int x5)]) rfl dX6_quarrels_31 (by decide) (q := 33) rfl ?_
  refine s_iload_n o 2 rfl dX6_quarrels_33 (q := 34) rfl ?_
  refine s_iload o 5 rfl dX6_quarrels_34 (q := 36) rfl ?_
  refine s_bi (fun r0 hr0 => runS o cs_X6_182 (c_X6_has (xG X) f x2 x5 h (xl X) r0 hr0) ⟨Nat.le_of_ble_eq_true rfl, Nat.le_of_ble_eq_true rfl⟩ rfl rfl (Nat.le_of_ble_eq_true rfl) dX6_quarrels_36 ⟨Nat.le_of_ble_eq_true rfl, Nat.le_of_ble_eq_true rfl⟩) (q := 39) rfl (cs' := 0) rfl (sl' := 0) rfl (fun v2_ h1_ => ?_)
  refine s_if_eq o (tgt := 51) dX6_quarrels_39 (by decide) (q := 42) rfl ?_ ?_
  · exact s_sub [0, 1, 2, 3, 4, 5] rfl (t_X6_quarrels_51 o f hk8 x0 x1 x2 x3 y0 x5 h1_)
  · refine s_iload_n o 3 rfl dX6_quarrels_42 (q := 43) rfl ?_
    refine s_if_ge o (tgt := 51) dX6_quarrels_43 (by decide) (q := 46) rfl ?_ ?_
    · exact s_sub [0, 1, 2, 3, 4, 5] rfl (t_X6_quarrels_51 o f hk8 x0 x1 x2 x3 y0 x5 h1_)
    · refine s_iload o 5 rfl dX6_quarrels_46 (q := 48) rfl ?_
      refine s_goto o (tgt := 52) dX6_quarrels_48 (by decide) ?_
      exact s_sub [0, 1, 2, 4, 5] rfl (t_X6_quarrels_52 o f hk8 x0 x1 x2 y0 x5 x5 h1_)
set_option maxRecDepth 20000 in
theorem t_X6_quarrels_8 {X : Cx} (o : Ok X RX6 cX6_quarrels 9 1 21 0 0 (some .int)) (f : Nat) {k8 : Nat → Int32 → Int32 → Int32 → Int32 → Int32 → Hp → Option (Int32 × Hp)} (hk8 : ∀ (x0 : Nat) (x1 : Int32) (x2 : Int32) (x3 : Int32) (x4 : Int32) (x5 : Int32) (h : Hp), Sim X (z_Zi X 0 0) 0 0 8 [(0, rf (xG X) x0), (1, .int x1), (2, .int x2), (3, .int x3), (4, .int x4), (5, .int x5)] [] h (k8 x0 x1 x2 x3 x4 x5 h)) (x0 : Nat) (x1 : Int32) (x2 : Int32) (x3 : Int32) (x4 : Int32) (x5 : Int32) (h : Hp) : Sim X (z_Zi X 0 0) 0 0 8 [(0, rf (xG X) x0), (1, .int x1), (2, .int x2), (3, .int x3), (4, .int x4), (5, .int x5)] [] h (b_X6_quarrels_8 f k8 x0 x1 x2 x3 x4 x5 h) := by
  unfold b_X6_quarrels_8
  refine s_iload o 5 rfl dX6_quarrels_8 (q := 10) rfl ?_
  refine s_bipush o dX6_quarrels_10 (v := (6 : Int32)) (by decide) (q := 12) rfl ?_
  refine s_ic_ge o (tgt := 59) dX6_quarrels_12 (by decide) (q := 15) rfl ?_ ?_
  · refine s_iconst o dX6_quarrels_59 (v := (0 : Int32)) (by decide) (q := 60) rfl ?_
    refine s_istore o [1, 2, 3, 4, 5, 0] (lv' := [(0, rf (xG X) x0), (1, .int x1), (2, .int x2), (3, .int x3), (4, .int x4), (5, .int (0 : Int32))]) rfl dX6_quarrels_60 (by decide) (q := 62) rfl ?_
    refine s_iconst o dX6_quarrels_62 (v := (0 : Int32)) (by decide) (q := 63) rfl ?_
    refine s_istore o [1, 2, 3, 4, 5, 6, 0] (lv' := [(0, rf (xG X) x0), (1, .int x1), (2, .int x2), (3, .int x3), (4, .int x4), (5, .int (0 : Int32)), (6, .int (0 : Int32))]) rfl dX6_quarrels_63 (by decide) (q := 65) rfl ?_
    exact s_sub [0, 1, 3, 4, 5, 6] rfl (tl_X6_quarrels_65 o f f x0 x1 x3 x4 (0 : Int32) (0 : Int32) h)
  · refine s_iload_n o 2 rfl dX6_quarrels_15 (q := 16) rfl ?_
    refine s_iload o 5 rfl dX6_quarrels_16 (q := 18) rfl ?_
    refine s_bi (fun r0 hr0 => runS o cs_X6_182 (c_X6_has (xG X) f x2 x5 h (xl X) r0 hr0) ⟨Nat.le_of_ble_eq_true rfl, Nat.le_of_ble_eq_true rfl⟩ rfl rfl (Nat.le_of_ble_eq_true rfl) dX6_quarrels_18 ⟨Nat.le_of_ble_eq_true rfl, Nat.le_of_ble_eq_true rfl⟩) (q := 21) rfl (cs' := 0) rfl (sl' := 0) rfl (fun v2_ h1_ => ?_)
    refine s_if_eq o (tgt := 29) dX6_quarrels_21 (by decide) (q := 24) rfl ?_ ?_
    · refine s_iload o 4 rfl dX6_quarrels_29 (q := 31) rfl ?_
      exact s_sub [0, 1, 2, 3, 5] rfl (t_X6_quarrels_31 o f hk8 x0 x1 x2 x3 x5 x4 h1_)
    · refine s_iload o 5 rfl dX6_quarrels_24 (q := 26) rfl ?_
      refine s_goto o (tgt := 31) dX6_quarrels_26 (by decide) ?_
      exact s_sub [0, 1, 2, 3, 5] rfl (t_X6_quarrels_31 o f hk8 x0 x1 x2 x3 x5 x5 h1_)
theorem tl_X6_quarrels_8 {X : Cx} (o : Ok X RX6 cX6_quarrels 9 1 21 0 0 (some .int)) (f : Nat)  : ∀ (n : Nat) (x0 : Nat) (x1 : Int32) (x2 : Int32) (x3 : Int32) (x4 : Int32) (x5 : Int32) (h : Hp), Sim X (z_Zi X 0 0) 0 0 8 [(0, rf (xG X) x0), (1, .int x1), (2, .int x2), (3, .int x3), (4, .int x4), (5, .int x5)] [] h (l_X6_quarrels_8 f n x0 x1 x2 x3 x4 x5 h) := by
  intro n
  induction n with
  | zero => intro x0 x1 x2 x3 x4 x5 h; exact s_none
  | succ n ih => intro x0 x1 x2 x3 x4 x5 h; exact t_X6_quarrels_8 o f  ih x0 x1 x2 x3 x4 x5 h
set_option maxRecDepth 20000 in
theorem t_X6_quarrels_0 {X : Cx} (o : Ok X RX6 cX6_quarrels 9 1 21 0 0 (some .int)) (f : Nat)  (x0 : Nat) (x1 : Int32) (x2 : Int32) (h : Hp) : Sim X (z_Zi X 0 0) 0 0 0 [(0, rf (xG X) x0), (1, .int x1), (2, .int x2)] [] h (f_X6_quarrels f x0 x1 x2 h) := by
  unfold f_X6_quarrels
  refine s_iconst o dX6_quarrels_0 (v := (-1 : Int32)) (by decide) (q := 1) rfl ?_
  refine s_istore_n o [1, 2, 3, 0] (lv' := [(0, rf (xG X) x0), (1, .int x1), (2, .int x2), (3, .int (-1 : Int32))]) rfl dX6_quarrels_1 (by decide) (q := 2) rfl ?_
  refine s_iconst o dX6_quarrels_2 (v := (-1 : Int32)) (by decide) (q := 3) rfl ?_
  refine s_istore o [1, 2, 3, 4, 0] (lv' := [(0, rf (xG X) x0), (1, .int x1), (2, .int x2), (3, .int (-1 : Int32)), (4, .int (-1 : Int32))]) rfl dX6_quarrels_3 (by decide) (q := 5) rfl ?_
  refine s_iconst o dX6_quarrels_5 (v := (0 : Int32)) (by decide) (q := 6) rfl ?_
  refine s_istore o [1, 2, 3, 4, 5, 0] (lv' := [(0, rf (xG X) x0), (1, .int x1), (2, .int x2), (3, .int (-1 : Int32)), (4, .int (-1 : Int32)), (5, .int (0 : Int32))]) rfl dX6_quarrels_6 (by decide) (q := 8) rfl ?_
  exact s_sub [0, 1, 2, 3, 4, 5] rfl (tl_X6_quarrels_8 o f f x0 x1 x2 (-1 : Int32) (-1 : Int32) (0 : Int32) h)
theorem c_X6_quarrels (G : Gx) (f : Nat) (x0 : Nat) (x1 : Int32) (x2 : Int32) (h : Hp) : z_M z_qi G yX6_quarrels cX6_quarrels 9 (some .int) 1 21 0 0 [rf G x0, .int x1, .int x2] h (f_X6_quarrels f x0 x1 x2 h) :=
  z_met (by decide +kernel) (Nat.le_of_ble_eq_true rfl) (fun X hG hn o hnm => by
    subst hG
    show Sim X (z_Zi X 0 0) 0 0 0 [(0, rf (xG X) x0), (1, .int x1), (2, .int x2)] [] h _
    exact s_sub [0, 1, 2] rfl (t_X6_quarrels_0 o f x0 x1 x2 h))
/-! SixMapsModel.mayLie(II)Z -/
def b_X6_mayLie_155 (f : Nat)  (y0 : Int32) (h : Hp) : Option (Int32 × Hp) :=
  q_bo y0 (some (y0, h))
def b_X6_mayLie_154 (f : Nat)   (h : Hp) : Option (Int32 × Hp) :=
  b_X6_mayLie_155 f (0 : Int32) h
def b_X6_mayLie_128 (f : Nat)  (x0 : Nat) (x1 : Int32) (x2 : Int32) (x3 : Int32) (x4 : Int32) (h : Hp) : Option (Int32 × Hp) :=
  if x3 = 0 then
  (b_X6_mayLie_154 f h)
  else
  (q_on h x0 6 (
  bi (f_X6_quarrels f x0 x1 x2 h) fun v3_ h2_ =>
  if x4 < v3_ then
  (b_X6_mayLie_154 f h2_)
  else
  (q_on h2_ x0 6 (
  bi (f_X6_isFelled f x0 h2_) fun v6_ h5_ =>
  if ¬ v6_ = 0 then
  (b_X6_mayLie_154 f h5_)
  else
  (b_X6_mayLie_155 f (1 : Int32) h5_)))))
def b_X6_mayLie_122 (f : Nat) (k51 : Nat → Int32 → Int32 → Int32 → Int32 → Int32 → Hp → Option (Int32 × Hp)) (x0 : Nat) (x1 : Int32) (x2 : Int32) (x3 : Int32) (x4 : Int32) (x5 : Int32) (h : Hp) : Option (Int32 × Hp) :=
  lt (x5 + (1 : Int32)) fun v1_ =>
  k51 x0 x1 x2 x3 x4 v1_ h
def b_X6_mayLie_121 (f : Nat) (k51 : Nat → Int32 → Int32 → Int32 → Int32 → Int32 → Hp → Option (Int32 × Hp)) (x0 : Nat) (x1 : Int32) (x2 : Int32) (x4 : Int32) (x5 : Int32) (y0 : Int32) (h : Hp) : Option (Int32 × Hp) :=
  b_X6_mayLie_122 f k51 x0 x1 x2 y0 x4 x5 h
def b_X6_mayLie_120 (f : Nat) (k51 : Nat → Int32 → Int32 → Int32 → Int32 → Int32 → Hp → Option (Int32 × Hp)) (x0 : Nat) (x1 : Int32) (x2 : Int32) (x4 : Int32) (x5 : Int32) (h : Hp) : Option (Int32 × Hp) :=
  b_X6_mayLie_121 f k51 x0 x1 x2 x4 x5 (0 : Int32) h
def b_X6_mayLie_116 (f : Nat) (k51 : Nat → Int32 → Int32 → Int32 → Int32 → Int32 → Hp → Option (Int32 × Hp)) (x0 : Nat) (x1 : Int32) (x2 : Int32) (x4 : Int32) (x5 : Int32) (h : Hp) : Option (Int32 × Hp) :=
  b_X6_mayLie_121 f k51 x0 x1 x2 x4 x5 (1 : Int32) h
def b_X6_mayLie_92 (f : Nat) (k51 : Nat → Int32 → Int32 → Int32 → Int32 → Int32 → Hp → Option (Int32 × Hp)) (x0 : Nat) (x1 : Int32) (x2 : Int32) (x5 : Int32) (x6 : Int32) (y0 : Int32) (y1 : Int32) (h : Hp) : Option (Int32 × Hp) :=
  lt (y0 + y1) fun v1_ =>
  if x6 = (1 : Int32) then
  (b_X6_mayLie_116 f k51 x0 x1 x2 v1_ x5 h)
  else
  (if ¬ x6 = 0 then
  (b_X6_mayLie_120 f k51 x0 x1 x2 v1_ x5 h)
  else
  (q_on h x0 6 (
  bi (f_X6_couldBe f x0 x1 x5 h) fun v4_ h3_ =>
  if v4_ = 0 then
  (b_X6_mayLie_120 f k51 x0 x1 x2 v1_ x5 h3_)
  else
  (b_X6_mayLie_116 f k51 x0 x1 x2 v1_ x5 h3_))))
def b_X6_mayLie_51 (f : Nat) (k51 : Nat → Int32 → Int32 → Int32 → Int32 → Int32 → Hp → Option (Int32 × Hp)) (x0 : Nat) (x1 : Int32) (x2 : Int32) (x3 : Int32) (x4 : Int32) (x5 : Int32) (h : Hp) : Option (Int32 × Hp) :=
  if (6 : Int32) ≤ x5 then
  (b_X6_mayLie_128 f x0 x1 x2 x3 x4 h)
  else
  (if x3 = 0 then
  (b_X6_mayLie_128 f x0 x1 x2 x3 x4 h)
  else
  (bi (f_X6_has f x2 x5 h) fun v2_ h1_ =>
  if v2_ = 0 then
  (b_X6_mayLie_122 f k51 x0 x1 x2 x3 x4 x5 h1_)
  else
  (q_on h1_ x0 6 (
  bi (f_X6_offTimes f x0 x1 x5 h1_) fun v5_ h4_ =>
  if ¬ v5_ = 0 then
  (b_X6_mayLie_92 f k51 x0 x1 x2 x5 v5_ x4 (0 : Int32) h4_)
  else
  (b_X6_mayLie_92 f k51 x0 x1 x2 x5 v5_ x4 (1 : Int32) h4_)))))
def l_X6_mayLie_51 (f : Nat)  : Nat → Nat → Int32 → Int32 → Int32 → Int32 → Int32 → Hp → Option (Int32 × Hp)
  | 0, _, _, _, _, _, _, _ => none
  | n + 1, x0, x1, x2, x3, x4, x5, h => b_X6_mayLie_51 f  (l_X6_mayLie_51 f  n) x0 x1 x2 x3 x4 x5 h
def b_X6_mayLie_38 (f : Nat) (k11 : Nat → Int32 → Int32 → Int32 → Int32 → Hp → Option (Int32 × Hp)) (x0 : Nat) (x1 : Int32) (x2 : Int32) (x4 : Int32) (y0 : Int32) (h : Hp) : Option (Int32 × Hp) :=
  lt (x4 + (1 : Int32)) fun v1_ =>
  k11 x0 x1 x2 y0 v1_ h
def b_X6_mayLie_37 (f : Nat) (k11 : Nat → Int32 → Int32 → Int32 → Int32 → Hp → Option (Int32 × Hp)) (x0 : Nat) (x1 : Int32) (x2 : Int32) (x4 : Int32) (h : Hp) : Option (Int32 × Hp) :=
  b_X6_mayLie_38 f k11 x0 x1 x2 x4 (0 : Int32) h
def b_X6_mayLie_11 (f : Nat) (k11 : Nat → Int32 → Int32 → Int32 → Int32 → Hp → Option (Int32 × Hp)) (x0 : Nat) (x1 : Int32) (x2 : Int32) (x3 : Int32) (x4 : Int32) (h : Hp) : Option (Int32 × Hp) :=
  (q_gi h x0 6 0).bind fun v1_ =>
  if v1_ ≤ x4 then
  (l_X6_mayLie_51 f f x0 x1 x2 x3 (0 : Int32) (0 : Int32) h)
  else
  (if x3 = 0 then
  (b_X6_mayLie_37 f k11 x0 x1 x2 x4 h)
  else
  (q_on h x0 6 (
  bi (f_X6_isLeft f x0 x4 h) fun v4_ h3_ =>
  if v4_ = 0 then
  (b_X6_mayLie_37 f k11 x0 x1 x2 x4 h3_)
  else
  (b_X6_mayLie_38 f k11 x0 x1 x2 x4 (1 : Int32) h3_))))
def l_X6_mayLie_11 (f : Nat)  : Nat → Nat → Int32 → Int32 → Int32 → Int32 → Hp → Option (Int32 × Hp)
  | 0, _, _, _, _, _, _ => none
  | n + 1, x0, x1, x2, x3, x4, h => b_X6_mayLie_11 f  (l_X6_mayLie_11 f  n) x0 x1 x2 x3 x4 h
def f_X6_mayLie (f : Nat)  (x0 : Nat) (x1 : Int32) (x2 : Int32) (h : Hp) : Option (Int32 × Hp) :=
  q_on h x0 6 (
  (f_X6_findLeft f x0 x1 x2 h).bind fun h2_ =>
  l_X6_mayLie_11 f f x0 x1 x2 (1 : Int32) (0 : Int32) h2_)
set_option maxRecDepth 20000 in
theorem t_X6_mayLie_155 {X : Cx} (o : Ok X RX6 cX6_mayLie 7 2 50 0 0 (some .boolean)) (f : Nat)  (y0 : Int32) (h : Hp) : Sim X (z_Zi X 0 0) 0 0 155 [] [.int y0] h (b_X6_mayLie_155 f y0 h) := by
  unfold b_X6_mayLie_155
  exact s_zret o dX6_mayLie_155
set_option maxRecDepth 20000 in
theorem t_X6_mayLie_154 {X : Cx} (o : Ok X RX6 cX6_mayLie 7 2 50 0 0 (some .boolean)) (f : Nat)   (h : Hp) : Sim X (z_Zi X 0 0) 0 0 154 [] [] h (b_X6_mayLie_154 f h) := by
  unfold b_X6_mayLie_154
  refine s_iconst o dX6_mayLie_154 (v := (0 : Int32)) (by decide) (q := 155) rfl ?_
  exact s_sub [] rfl (t_X6_mayLie_155 o f (0 : Int32) h)
set_option maxRecDepth 20000 in
theorem t_X6_mayLie_128 {X : Cx} (o : Ok X RX6 cX6_mayLie 7 2 50 0 0 (some .boolean)) (f : Nat)  (x0 : Nat) (x1 : Int32) (x2 : Int32) (x3 : Int32) (x4 : Int32) (h : Hp) : Sim X (z_Zi X 0 0) 0 0 128 [(0, rf (xG X) x0), (1, .int x1), (2, .int x2), (3, .int x3), (4, .int x4)] [] h (b_X6_mayLie_128 f x0 x1 x2 x3 x4 h) := by
  unfold b_X6_mayLie_128
  refine s_iload_n o 3 rfl dX6_mayLie_128 (q := 129) rfl ?_
  refine s_if_eq o (tgt := 154) dX6_mayLie_129 (by decide) (q := 132) rfl ?_ ?_
  · exact s_sub [] rfl (t_X6_mayLie_154 o f h)
  · refine s_aload_n o 0 rfl dX6_mayLie_132 (q := 133) rfl ?_
    refine s_iload_n o 1 rfl dX6_mayLie_133 (q := 134) rfl ?_
    refine s_iload_n o 2 rfl dX6_mayLie_134 (q := 135) rfl ?_
    refine s_on (fun hk1_ => ?_)
    refine s_bi (fun r0 hr0 => runV o hk1_ cv_X6_299 (c_X6_quarrels (xG X) f x0 x1 x2 h (xl X) r0 hr0) ⟨Nat.le_of_ble_eq_true rfl, Nat.le_of_ble_eq_true rfl⟩ rfl rfl (Nat.le_of_ble_eq_true rfl) dX6_mayLie_135 ⟨Nat.le_of_ble_eq_true rfl, Nat.le_of_ble_eq_true rfl⟩) (q := 138) rfl (cs' := 0) rfl (sl' := 0) rfl (fun v3_ h2_ => ?_)
    refine s_iload o 4 rfl dX6_mayLie_138 (q := 140) rfl ?_
    refine s_ic_gt o (tgt := 154) dX6_mayLie_140 (by decide) (q := 143) rfl ?_ ?_
    · exact s_sub [] rfl (t_X6_mayLie_154 o f h2_)
    · refine s_aload_n o 0 rfl dX6_mayLie_143 (q := 144) rfl ?_
      refine s_on (fun hk4_ => ?_)
      refine s_bi (fun r0 hr0 => runV o hk4_ cv_X6_302 (c_X6_isFelled (xG X) f x0 h2_ (xl X) r0 hr0) ⟨Nat.le_of_ble_eq_true rfl, Nat.le_of_ble_eq_true rfl⟩ rfl rfl (Nat.le_of_ble_eq_true rfl) dX6_mayLie_144 ⟨Nat.le_of_ble_eq_true rfl, Nat.le_of_ble_eq_true rfl⟩) (q := 147) rfl (cs' := 0) rfl (sl' := 0) rfl (fun v6_ h5_ => ?_)
      refine s_if_ne o (tgt := 154) dX6_mayLie_147 (by decide) (q := 150) rfl ?_ ?_
      · exact s_sub [] rfl (t_X6_mayLie_154 o f h5_)
      · refine s_iconst o dX6_mayLie_150 (v := (1 : Int32)) (by decide) (q := 151) rfl ?_
        refine s_goto o (tgt := 155) dX6_mayLie_151 (by decide) ?_
        exact s_sub [] rfl (t_X6_mayLie_155 o f (1 : Int32) h5_)
set_option maxRecDepth 20000 in
theorem t_X6_mayLie_122 {X : Cx} (o : Ok X RX6 cX6_mayLie 7 2 50 0 0 (some .boolean)) (f : Nat) {k51 : Nat → Int32 → Int32 → Int32 → Int32 → Int32 → Hp → Option (Int32 × Hp)} (hk51 : ∀ (x0 : Nat) (x1 : Int32) (x2 : Int32) (x3 : Int32) (x4 : Int32) (x5 : Int32) (h : Hp), Sim X (z_Zi X 0 0) 0 0 51 [(0, rf (xG X) x0), (1, .int x1), (2, .int x2), (3, .int x3), (4, .int x4), (5, .int x5)] [] h (k51 x0 x1 x2 x3 x4 x5 h)) (x0 : Nat) (x1 : Int32) (x2 : Int32) (x3 : Int32) (x4 : Int32) (x5 : Int32) (h : Hp) : Sim X (z_Zi X 0 0) 0 0 122 [(0, rf (xG X) x0), (1, .int x1), (2, .int x2), (3, .int x3), (4, .int x4), (5, .int x5)] [] h (b_X6_mayLie_122 f k51 x0 x1 x2 x3 x4 x5 h) := by
  unfold b_X6_mayLie_122
  refine s_iinc o 5 rfl (v := (1 : Int32)) (by decide) [1, 2, 3, 4, 5, 0] (lv' := fun v1_ => [(0, rf (xG X) x0), (1, .int x1), (2, .int x2), (3, .int x3), (4, .int x4), (5, .int v1_)]) (fun _ => rfl) dX6_mayLie_122 (by decide) (q := 125) rfl (fun v1_ => ?_)
  refine s_goto o (tgt := 51) dX6_mayLie_125 (by decide) ?_
  exact s_sub [0, 1, 2, 3, 4, 5] rfl (hk51 x0 x1 x2 x3 x4 v1_ h)
set_option maxRecDepth 20000 in
theorem t_X6_mayLie_121 {X : Cx} (o : Ok X RX6 cX6_mayLie 7 2 50 0 0 (some .boolean)) (f : Nat) {k51 : Nat → Int32 → Int32 → Int32 → Int32 → Int32 → Hp → Option (Int32 × Hp)} (hk51 : ∀ (x0 : Nat) (x1 : Int32) (x2 : Int32) (x3 : Int32) (x4 : Int32) (x5 : Int32) (h : Hp), Sim X (z_Zi X 0 0) 0 0 51 [(0, rf (xG X) x0), (1, .int x1), (2, .int x2), (3, .int x3), (4, .int x4), (5, .int x5)] [] h (k51 x0 x1 x2 x3 x4 x5 h)) (x0 : Nat) (x1 : Int32) (x2 : Int32) (x4 : Int32) (x5 : Int32) (y0 : Int32) (h : Hp) : Sim X (z_Zi X 0 0) 0 0 121 [(0, rf (xG X) x0), (1, .int x1), (2, .int x2), (4, .int x4), (5, .int x5)] [.int y0] h (b_X6_mayLie_121 f k51 x0 x1 x2 x4 x5 y0 h) := by
  unfold b_X6_mayLie_121
  refine s_istore_n o [1, 2, 3, 0, 4, 5] (lv' := [(0, rf (xG X) x0), (1, .int x1), (2, .int x2), (3, .int y0), (4, .int x4), (5, .int x5)]) rfl dX6_mayLie_121 (by decide) (q := 122) rfl ?_
  exact s_sub [0, 1, 2, 3, 4, 5] rfl (t_X6_mayLie_122 o f hk51 x0 x1 x2 y0 x4 x5 h)
set_option maxRecDepth 20000 in
theorem t_X6_mayLie_120 {X : Cx} (o : Ok X RX6 cX6_mayLie 7 2 50 0 0 (some .boolean)) (f : Nat) {k51 : Nat → Int32 → Int32 → Int32 → Int32 → Int32 → Hp → Option (Int32 × Hp)} (hk51 : ∀ (x0 : Nat) (x1 : Int32) (x2 : Int32) (x3 : Int32) (x4 : Int32) (x5 : Int32) (h : Hp), Sim X (z_Zi X 0 0) 0 0 51 [(0, rf (xG X) x0), (1, .int x1), (2, .int x2), (3, .int x3), (4, .int x4), (5, .int x5)] [] h (k51 x0 x1 x2 x3 x4 x5 h)) (x0 : Nat) (x1 : Int32) (x2 : Int32) (x4 : Int32) (x5 : Int32) (h : Hp) : Sim X (z_Zi X 0 0) 0 0 120 [(0, rf (xG X) x0), (1, .int x1), (2, .int x2), (4, .int x4), (5, .int x5)] [] h (b_X6_mayLie_120 f k51 x0 x1 x2 x4 x5 h) := by
  unfold b_X6_mayLie_120
  refine s_iconst o dX6_mayLie_120 (v := (0 : Int32)) (by decide) (q := 121) rfl ?_
  exact s_sub [0, 1, 2, 3, 4] rfl (t_X6_mayLie_121 o f hk51 x0 x1 x2 x4 x5 (0 : Int32) h)
set_option maxRecDepth 20000 in
theorem t_X6_mayLie_116 {X : Cx} (o : Ok X RX6 cX6_mayLie 7 2 50 0 0 (some .boolean)) (f : Nat) {k51 : Nat → Int32 → Int32 → Int32 → Int32 → Int32 → Hp → Option (Int32 × Hp)} (hk51 : ∀ (x0 : Nat) (x1 : Int32) (x2 : Int32) (x3 : Int32) (x4 : Int32) (x5 : Int32) (h : Hp), Sim X (z_Zi X 0 0) 0 0 51 [(0, rf (xG X) x0), (1, .int x1), (2, .int x2), (3, .int x3), (4, .int x4), (5, .int x5)] [] h (k51 x0 x1 x2 x3 x4 x5 h)) (x0 : Nat) (x1 : Int32) (x2 : Int32) (x4 : Int32) (x5 : Int32) (h : Hp) : Sim X (z_Zi X 0 0) 0 0 116 [(0, rf (xG X) x0), (1, .int x1), (2, .int x2), (4, .int x4), (5, .int x5)] [] h (b_X6_mayLie_116 f k51 x0 x1 x2 x4 x5 h) := by
  unfold b_X6_mayLie_116
  refine s_iconst o dX6_mayLie_116 (v := (1 : Int32)) (by decide) (q := 117) rfl ?_
  refine s_goto o (tgt := 121) dX6_mayLie_117 (by decide) ?_
  exact s_sub [0, 1, 2, 3, 4] rfl (t_X6_mayLie_121 o f hk51 x0 x1 x2 x4 x5 (1 : Int32) h)
set_option maxRecDepth 20000 in
theorem t_X6_mayLie_92 {X : Cx} (o : Ok X RX6 cX6_mayLie 7 2 50 0 0 (some .boolean)) (f : Nat) {k51 : Nat → Int32 → Int32 → Int32 → Int32 → Int32 → Hp → Option (Int32 × Hp)} (hk51 : ∀ (x0 : Nat) (x1 : Int32) (x2 : Int32) (x3 : Int32) (x4 : Int32) (x5 : Int32) (h : Hp), Sim X (z_Zi X 0 0) 0 0 51 [(0, rf (xG X) x0), (1, .int x1), (2, .int x2), (3, .int x3), (4, .int x4), (5, .int x5)] [] h (k51 x0 x1 x2 x3 x4 x5 h)) (x0 : Nat) (x1 : Int32) (x2 : Int32) (x5 : Int32) (x6 : Int32) (y0 : Int32) (y1 : Int32) (h : Hp) : Sim X (z_Zi X 0 0) 0 0 92 [(0, rf (xG X) x0), (1, .int x1), (2, .int x2), (5, .int x5), (6, .int x6)] [.int y1, .int y0] h (b_X6_mayLie_92 f k51 x0 x1 x2 x5 x6 y0 y1 h) := by
  unfold b_X6_mayLie_92
  refine s_iadd o dX6_mayLie_92 (q := 93) rfl ?_
  refine s_let (fun v1_ => ?_)
  refine s_istore o [1, 2, 3, 0, 4, 5] (lv' := [(0, rf (xG X) x0), (1, .int x1), (2, .int x2), (4, .int v1_), (5, .int x5), (6, .int x6)]) rfl dX6_mayLie_93 (by decide) (q := 95) rfl ?_
  refine s_iload o 5 rfl dX6_mayLie_95 (q := 97) rfl ?_
  refine s_iconst o dX6_mayLie_97 (v := (1 : Int32)) (by decide) (q := 98) rfl ?_
  refine s_ic_eq o (tgt := 116) dX6_mayLie_98 (by decide) (q := 101) rfl ?_ ?_
  · exact s_sub [0, 1, 2, 3, 4] rfl (t_X6_mayLie_116 o f hk51 x0 x1 x2 v1_ x5 h)
  · refine s_iload o 5 rfl dX6_mayLie_101 (q := 103) rfl ?_
    refine s_if_ne o (tgt := 120) dX6_mayLie_103 (by decide) (q := 106) rfl ?_ ?_
    · exact s_sub [0, 1, 2, 3, 4] rfl (t_X6_mayLie_120 o f hk51 x0 x1 x2 v1_ x5 h)
    · refine s_aload_n o 0 rfl dX6_mayLie_106 (q := 107) rfl ?_
      refine s_iload_n o 1 rfl dX6_mayLie_107 (q := 108) rfl ?_
      refine s_iload o 4 rfl dX6_mayLie_108 (q := 110) rfl ?_
      refine s_on (fun hk2_ => ?_)
      refine s_bi (fun r0 hr0 => runV o hk2_ cv_X6_296 (c_X6_couldBe (xG X) f x0 x1 x5 h (xl X) r0 hr0) ⟨Nat.le_of_ble_eq_true rfl, Nat.le_of_ble_eq_true rfl⟩ rfl rfl (Nat.le_of_ble_eq_true rfl) dX6_mayLie_110 ⟨Nat.le_of_ble_eq_true rfl, Nat.le_of_ble_eq_true rfl⟩) (q := 113) rfl (cs' := 0) rfl (sl' := 0) rfl (fun v4_ h3_ => ?_)
      refine s_if_eq o (tgt := 120) dX6_mayLie_113 (by decide) (q := 116) rfl ?_ ?_
      · exact s_sub [0, 1, 2, 3, 4] rfl (t_X6_mayLie_120 o f hk51 x0 x1 x2 v1_ x5 h3_)
      · exact s_sub [0, 1, 2, 3, 4] rfl (t_X6_mayLie_116 o f hk51 x0 x1 x2 v1_ x5 h3_)
set_option maxRecDepth 20000 in
theorem t_X6_mayLie_51 {X : Cx} (o : Ok X RX6 cX6_mayLie 7 2 50 0 0 (some .boolean)) (f : Nat) {k51 : Nat → Int32 → Int32 → Int32 → Int32 → Int32 → Hp → Option (Int32 × Hp)} (hk51 : ∀ (x0 : Nat) (x1 : Int32) (x2 : Int32) (x3 : Int32) (x4 : Int32) (x5 : Int32) (h : Hp), Sim X (z_Zi X 0 0) 0 0 51 [(0, rf (xG X) x0), (1, .int x1), (2, .int x2), (3, .int x3), (4, .int x4), (5, .int x5)] [] h (k51 x0 x1 x2 x3 x4 x5 h)) (x0 : Nat) (x1 : Int32) (x2 : Int32) (x3 : Int32) (x4 : Int32) (x5 : Int32) (h : Hp) : Sim X (z_Zi X 0 0) 0 0 51 [(0, rf (xG X) x0), (1, .int x1), (2, .int x2), (3, .int x3), (4, .int x4), (5, .int x5)] [] h (b_X6_mayLie_51 f k51 x0 x1 x2 x3 x4 x5 h) := by
  unfold b_X6_mayLie_51
  refine s_iload o 5 rfl dX6_mayLie_51 (q := 53) rfl ?_
  refine s_bipush o dX6_mayLie_53 (v := (6 : Int32)) (by decide) (q := 55) rfl ?_
  refine s_ic_ge o (tgt := 128) dX6_mayLie_55 (by decide) (q := 58) rfl ?_ ?_
  · exact s_sub [0, 1, 2, 3, 4] rfl (t_X6_mayLie_128 o f x0 x1 x2 x3 x4 h)
  · refine s_iload_n o 3 rfl dX6_mayLie_58 (q := 59) rfl ?_
    refine s_if_eq o (tgt := 128) dX6_mayLie_59 (by decide) (q := 62) rfl ?_ ?_
    · exact s_sub [0, 1, 2, 3, 4] rfl (t_X6_mayLie_128 o f x0 x1 x2 x3 x4 h)
    · refine s_iload_n o 2 rfl dX6_mayLie_62 (q := 63) rfl ?_
      refine s_iload o 5 rfl dX6_mayLie_63 (q := 65) rfl ?_
      refine s_bi (fun r0 hr0 => runS o cs_X6_182 (c_X6_has (xG X) f x2 x5 h (xl X) r0 hr0) ⟨Nat.le_of_ble_eq_true rfl, Nat.le_of_ble_eq_true rfl⟩ rfl rfl (Nat.le_of_ble_eq_true rfl) dX6_mayLie_65 ⟨Nat.le_of_ble_eq_true rfl, Nat.le_of_ble_eq_true rfl⟩) (q := 68) rfl (cs' := 0) rfl (sl' := 0) rfl (fun v2_ h1_ => ?_)
      refine s_if_eq o (tgt := 122) dX6_mayLie_68 (by decide) (q := 71) rfl ?_ ?_
      · exact s_sub [0, 1, 2, 3, 4, 5] rfl (t_X6_mayLie_122 o f hk51 x0 x1 x2 x3 x4 x5 h1_)
      · refine s_aload_n o 0 rfl dX6_mayLie_71 (q := 72) rfl ?_
        refine s_iload_n o 1 rfl dX6_mayLie_72 (q := 73) rfl ?_
        refine s_iload o 5 rfl dX6_mayLie_73 (q := 75) rfl ?_
        refine s_on (fun hk3_ => ?_)
        refine s_bi (fun r0 hr0 => runV o hk3_ cv_X6_293 (c_X6_offTimes (xG X) f x0 x1 x5 h1_ (xl X) r0 hr0) ⟨Nat.le_of_ble_eq_true rfl, Nat.le_of_ble_eq_true rfl⟩ rfl rfl (Nat.le_of_ble_eq_true rfl) dX6_mayLie_75 ⟨Nat.le_of_ble_eq_true rfl, Nat.le_of_ble_eq_true rfl⟩) (q := 78) rfl (cs' := 0) rfl (sl' := 0) rfl (fun v5_ h4_ => ?_)
        refine s_istore o [1, 2, 3, 4, 5, 6, 0] (lv' := [(0, rf (xG X) x0), (1, .int x1), (2, .int x2), (3, .int x3), (4, .int x4), (5, .int x5), (6, .int v5_)]) rfl dX6_mayLie_78 (by decide) (q := 80) rfl ?_
        refine s_iload o 4 rfl dX6_mayLie_80 (q := 82) rfl ?_
        refine s_iload o 6 rfl dX6_mayLie_82 (q := 84) rfl ?_
        refine s_if_ne o (tgt := 91) dX6_mayLie_84 (by decide) (q := 87) rfl ?_ ?_
        · refine s_iconst o dX6_mayLie_91 (v := (0 : Int32)) (by decide) (q := 92) rfl ?_
          exact s_sub [0, 1, 2, 5, 6] rfl (t_X6_mayLie_92 o f hk51 x0 x1 x2 x5 v5_ x4 (0 : Int32) h4_)
        · refine s_iconst o dX6_mayLie_87 (v := (1 : Int32)) (by decide) (q := 88) rfl ?_
          refine s_goto o (tgt := 92) dX6_mayLie_88 (by decide) ?_
          exact s_sub [0, 1, 2, 5, 6] rfl (t_X6_mayLie_92 o f hk51 x0 x1 x2 x5 v5_ x4 (1 : Int32) h4_)
theorem tl_X6_mayLie_51 {X : Cx} (o : Ok X RX6 cX6_mayLie 7 2 50 0 0 (some .boolean)) (f : Nat)  : ∀ (n : Nat) (x0 : Nat) (x1 : Int32) (x2 : Int32) (x3 : Int32) (x4 : Int32) (x5 : Int32) (h : Hp), Sim X (z_Zi X 0 0) 0 0 51 [(0, rf (xG X) x0), (1, .int x1), (2, .int x2), (3, .int x3), (4, .int x4), (5, .int x5)] [] h (l_X6_mayLie_51 f n x0 x1 x2 x3 x4 x5 h) := by
  intro n
  induction n with
  | zero => intro x0 x1 x2 x3 x4 x5 h; exact s_none
  | succ n ih => intro x0 x1 x2 x3 x4 x5 h; exact t_X6_mayLie_51 o f  ih x0 x1 x2 x3 x4 x5 h
set_option maxRecDepth 20000 in
theorem t_X6_mayLie_38 {X : Cx} (o : Ok X RX6 cX6_mayLie 7 2 50 0 0 (some .boolean)) (f : Nat) {k11 : Nat → Int32 → Int32 → Int32 → Int32 → Hp → Option (Int32 × Hp)} (hk11 : ∀ (x0 : Nat) (x1 : Int32) (x2 : Int32) (x3 : Int32) (x4 : Int32) (h : Hp), Sim X (z_Zi X 0 0) 0 0 11 [(0, rf (xG X) x0), (1, .int x1), (2, .int x2), (3, .int x3), (4, .int x4)] [] h (k11 x0 x1 x2 x3 x4 h)) (x0 : Nat) (x1 : Int32) (x2 : Int32) (x4 : Int32) (y0 : Int32) (h : Hp) : Sim X (z_Zi X 0 0) 0 0 38 [(0, rf (xG X) x0), (1, .int x1), (2, .int x2), (4, .int x4)] [.int y0] h (b_X6_mayLie_38 f k11 x0 x1 x2 x4 y0 h) := by
  unfold b_X6_mayLie_38
  refine s_istore_n o [1, 2, 3, 0, 4] (lv' := [(0, rf (xG X) x0), (1, .int x1), (2, .int x2), (3, .int y0), (4, .int x4)]) rfl dX6_mayLie_38 (by decide) (q := 39) rfl ?_
  refine s_iinc o 4 rfl (v := (1 : Int32)) (by decide) [1, 2, 3, 4, 0] (lv' := fun v1_ => [(0, rf (xG X) x0), (1, .int x1), (2, .int x2), (3, .int y0), (4, .int v1_)]) (fun _ => rfl) dX6_mayLie_39 (by decide) (q := 42) rfl (fun v1_ => ?_)
  refine s_goto o (tgt := 11) dX6_mayLie_42 (by decide) ?_
  exact s_sub [0, 1, 2, 3, 4] rfl (hk11 x0 x1 x2 y0 v1_ h)
set_option maxRecDepth 20000 in
theorem t_X6_mayLie_37 {X : Cx} (o : Ok X RX6 cX6_mayLie 7 2 50 0 0 (some .boolean)) (f : Nat) {k11 : Nat → Int32 → Int32 → Int32 → Int32 → Hp → Option (Int32 × Hp)} (hk11 : ∀ (x0 : Nat) (x1 : Int32) (x2 : Int32) (x3 : Int32) (x4 : Int32) (h : Hp), Sim X (z_Zi X 0 0) 0 0 11 [(0, rf (xG X) x0), (1, .int x1), (2, .int x2), (3, .int x3), (4, .int x4)] [] h (k11 x0 x1 x2 x3 x4 h)) (x0 : Nat) (x1 : Int32) (x2 : Int32) (x4 : Int32) (h : Hp) : Sim X (z_Zi X 0 0) 0 0 37 [(0, rf (xG X) x0), (1, .int x1), (2, .int x2), (4, .int x4)] [] h (b_X6_mayLie_37 f k11 x0 x1 x2 x4 h) := by
  unfold b_X6_mayLie_37
  refine s_iconst o dX6_mayLie_37 (v := (0 : Int32)) (by decide) (q := 38) rfl ?_
  exact s_sub [0, 1, 2, 3] rfl (t_X6_mayLie_38 o f hk11 x0 x1 x2 x4 (0 : Int32) h)
set_option maxRecDepth 20000 in
theorem t_X6_mayLie_11 {X : Cx} (o : Ok X RX6 cX6_mayLie 7 2 50 0 0 (some .boolean)) (f : Nat) {k11 : Nat → Int32 → Int32 → Int32 → Int32 → Hp → Option (Int32 × Hp)} (hk11 : ∀ (x0 : Nat) (x1 : Int32) (x2 : Int32) (x3 : Int32) (x4 : Int32) (h : Hp), Sim X (z_Zi X 0 0) 0 0 11 [(0, rf (xG X) x0), (1, .int x1), (2, .int x2), (3, .int x3), (4, .int x4)] [] h (k11 x0 x1 x2 x3 x4 h)) (x0 : Nat) (x1 : Int32) (x2 : Int32) (x3 : Int32) (x4 : Int32) (h : Hp) : Sim X (z_Zi X 0 0) 0 0 11 [(0, rf (xG X) x0), (1, .int x1), (2, .int x2), (3, .int x3), (4, .int x4)] [] h (b_X6_mayLie_11 f k11 x0 x1 x2 x3 x4 h) := by
  unfold b_X6_mayLie_11
  refine s_iload o 4 rfl dX6_mayLie_11 (q := 13) rfl ?_
  refine s_aload_n o 0 rfl dX6_mayLie_13 (q := 14) rfl ?_
  refine s_gi o kf_X6_111 dX6_mayLie_14 (q := 17) rfl (fun v1_ => ?_)
  refine s_ic_ge o (tgt := 45) dX6_mayLie_17 (by decide) (q := 20) rfl ?_ ?_
  · refine s_iconst o dX6_mayLie_45 (v := (0 : Int32)) (by decide) (q := 46) rfl ?_
    refine s_istore o [1, 2, 3, 4, 0] (lv' := [(0, rf (xG X) x0), (1, .int x1), (2, .int x2), (3, .int x3), (4, .int (0 : Int32))]) rfl dX6_mayLie_46 (by decide) (q := 48) rfl ?_
    refine s_iconst o dX6_mayLie_48 (v := (0 : Int32)) (by decide) (q := 49) rfl ?_
    refine s_istore o [1, 2, 3, 4, 5, 0] (lv' := [(0, rf (xG X) x0), (1, .int x1), (2, .int x2), (3, .int x3), (4, .int (0 : Int32)), (5, .int (0 : Int32))]) rfl dX6_mayLie_49 (by decide) (q := 51) rfl ?_
    exact s_sub [0, 1, 2, 3, 4, 5] rfl (tl_X6_mayLie_51 o f f x0 x1 x2 x3 (0 : Int32) (0 : Int32) h)
  · refine s_iload_n o 3 rfl dX6_mayLie_20 (q := 21) rfl ?_
    refine s_if_eq o (tgt := 37) dX6_mayLie_21 (by decide) (q := 24) rfl ?_ ?_
    · exact s_sub [0, 1, 2, 4] rfl (t_X6_mayLie_37 o f hk11 x0 x1 x2 x4 h)
    · refine s_aload_n o 0 rfl dX6_mayLie_24 (q := 25) rfl ?_
      refine s_iload o 4 rfl dX6_mayLie_25 (q := 27) rfl ?_
      refine s_on (fun hk2_ => ?_)
      refine s_bi (fun r0 hr0 => runV o hk2_ cv_X6_290 (c_X6_isLeft (xG X) f x0 x4 h (xl X) r0 hr0) ⟨Nat.le_of_ble_eq_true rfl, Nat.le_of_ble_eq_true rfl⟩ rfl rfl (Nat.le_of_ble_eq_true rfl) dX6_mayLie_27 ⟨Nat.le_of_ble_eq_true rfl, Nat.le_of_ble_eq_true rfl⟩) (q := 30) rfl (cs' := 0) rfl (sl' := 0) rfl (fun v4_ h3_ => ?_)
      refine s_if_eq o (tgt := 37) dX6_mayLie_30 (by decide) (q := 33) rfl ?_ ?_
      · exact s_sub [0, 1, 2, 4] rfl (t_X6_mayLie_37 o f hk11 x0 x1 x2 x4 h3_)
      · refine s_iconst o dX6_mayLie_33 (v := (1 : Int32)) (by decide) (q := 34) rfl ?_
        refine s_goto o (tgt := 38) dX6_mayLie_34 (by decide) ?_
        exact s_sub [0, 1, 2, 4] rfl (t_X6_mayLie_38 o f hk11 x0 x1 x2 x4 (1 : Int32) h3_)
theorem tl_X6_mayLie_11 {X : Cx} (o : Ok X RX6 cX6_mayLie 7 2 50 0 0 (some .boolean)) (f : Nat)  : ∀ (n : Nat) (x0 : Nat) (x1 : Int32) (x2 : Int32) (x3 : Int32) (x4 : Int32) (h : Hp), Sim X (z_Zi X 0 0) 0 0 11 [(0, rf (xG X) x0), (1, .int x1), (2, .int x2), (3, .int x3), (4, .int x4)] [] h (l_X6_mayLie_11 f n x0 x1 x2 x3 x4 h) := by
  intro n
  induction n with
  | zero => intro x0 x1 x2 x3 x4 h; exact s_none
  | succ n ih => intro x0 x1 x2 x3 x4 h; exact t_X6_mayLie_11 o f  ih x0 x1 x2 x3 x4 h
set_option maxRecDepth 20000 in
theorem t_X6_mayLie_0 {X : Cx} (o : Ok X RX6 cX6_mayLie 7 2 50 0 0 (some .boolean)) (f : Nat)  (x0 : Nat) (x1 : Int32) (x2 : Int32) (h : Hp) : Sim X (z_Zi X 0 0) 0 0 0 [(0, rf (xG X) x0), (1, .int x1), (2, .int x2)] [] h (f_X6_mayLie f x0 x1 x2 h) := by
  unfold f_X6_mayLie
  refine s_aload_n o 0 rfl dX6_mayLie_0 (q := 1) rfl ?_
  refine s_iload_n o 1 rfl dX6_mayLie_1 (q := 2) rfl ?_
  refine s_iload_n o 2 rfl dX6_mayLie_2 (q := 3) rfl ?_
  refine s_on (fun hk1_ => ?_)
  refine s_callv (fun r0 hr0 => runV o hk1_ cv_X6_286 (c_X6_findLeft (xG X) f x0 x1 x2 h (xl X) r0 hr0) ⟨Nat.le_of_ble_eq_true rfl, Nat.le_of_ble_eq_true rfl⟩ rfl rfl (Nat.le_of_ble_eq_true rfl) dX6_mayLie_3 ⟨Nat.le_of_ble_eq_true rfl, Nat.le_of_ble_eq_true rfl⟩) (q := 6) rfl (cs' := 0) rfl (sl' := 0) rfl (fun h2_ => ?_)
  refine s_iconst o dX6_mayLie_6 (v := (1 : Int32)) (by decide) (q := 7) rfl ?_
  refine s_istore_n o [1, 2, 3, 0] (lv' := [(0, rf (xG X) x0), (1, .int x1), (2, .int x2), (3, .int (1 : Int32))]) rfl dX6_mayLie_7 (by decide) (q := 8) rfl ?_
  refine s_iconst o dX6_mayLie_8 (v := (0 : Int32)) (by decide) (q := 9) rfl ?_
  refine s_istore o [1, 2, 3, 4, 0] (lv' := [(0, rf (xG X) x0), (1, .int x1), (2, .int x2), (3, .int (1 : Int32)), (4, .int (0 : Int32))]) rfl dX6_mayLie_9 (by decide) (q := 11) rfl ?_
  exact s_sub [0, 1, 2, 3, 4] rfl (tl_X6_mayLie_11 o f f x0 x1 x2 (1 : Int32) (0 : Int32) h2_)
theorem c_X6_mayLie (G : Gx) (f : Nat) (x0 : Nat) (x1 : Int32) (x2 : Int32) (h : Hp) : z_M z_qi G yX6_mayLie cX6_mayLie 7 (some .boolean) 2 50 0 0 [rf G x0, .int x1, .int x2] h (f_X6_mayLie f x0 x1 x2 h) :=
  z_met (by decide +kernel) (Nat.le_of_ble_eq_true rfl) (fun X hG hn o hnm => by
    subst hG
    show Sim X (z_Zi X 0 0) 0 0 0 [(0, rf (xG X) x0), (1, .int x1), (2, .int x2)] [] h _
    exact s_sub [0, 1, 2] rfl (t_X6_mayLie_0 o f x0 x1 x2 h))
/-! SixMapsModel.area(III)I -/
def b_X6_area_65 (f : Nat)   (h : Hp) : Option (Int32 × Hp) :=
  some ((-1000003 : Int32), h)
def b_X6_area_35 (f : Nat)   (h : Hp) : Option (Int32 × Hp) :=
  some ((-1000002 : Int32), h)
def f_X6_area (f : Nat)  (x0 : Nat) (x1 : Int32) (x2 : Int32) (x3 : Int32) (h : Hp) : Option (Int32 × Hp) :=
  bi (f_X6_isBand f x1 h) fun v2_ h1_ =>
  if ¬ v2_ = 0 then
  (bi (f_X6_in f x2.toInt64 (0 : Int64) (63 : Int64) h1_) fun v4_ h3_ =>
  if v4_ = 0 then
  (b_X6_area_35 f h3_)
  else
  (bi (f_X6_in f x3.toInt64 (0 : Int64) (3 : Int64) h3_) fun v6_ h5_ =>
  if ¬ v6_ = 0 then
  ((q_gi h5_ x0 6 0).bind fun v7_ =>
  if v7_ = 0 then
  (b_X6_area_65 f h5_)
  else
  (bi (f_X6_bits f x2 h5_) fun v9_ h8_ =>
  (q_gi h8_ x0 6 5).bind fun v10_ =>
  if ¬ v9_ = v10_ then
  (b_X6_area_65 f h8_)
  else
  (q_on h8_ x0 6 (
  bi (f_X6_mayLie f x0 x1 x2 h8_) fun v13_ h12_ =>
  if ¬ v13_ = 0 then
  (q_on h12_ x0 6 (
  (f_X6_findArea f x0 h12_).bind fun h15_ =>
  (q_gr h15_ x0 6 43).bind fun a16_ =>
  (q_ai h15_ a16_ 9 x3).bind fun v17_ =>
  some (v17_, h15_)))
  else
  (b_X6_area_65 f h12_)))))
  else
  (b_X6_area_35 f h5_)))
  else
  (some ((-1000001 : Int32), h1_))
set_option maxRecDepth 20000 in
theorem t_X6_area_65 {X : Cx} (o : Ok X RX6 cX6_area 4 3 76 0 0 (some .int)) (f : Nat)   (h : Hp) : Sim X (z_Zi X 0 0) 0 0 65 [] [] h (b_X6_area_65 f h) := by
  unfold b_X6_area_65
  refine s_ldcw o kc_X6_317 dX6_area_65 (q := 68) rfl ?_
  exact s_iret o dX6_area_68
set_option maxRecDepth 20000 in
theorem t_X6_area_35 {X : Cx} (o : Ok X RX6 cX6_area 4 3 76 0 0 (some .int)) (f : Nat)   (h : Hp) : Sim X (z_Zi X 0 0) 0 0 35 [] [] h (b_X6_area_35 f h) := by
  unfold b_X6_area_35
  refine s_ldc o kc_X6_125 dX6_area_35 (q := 37) rfl ?_
  exact s_iret o dX6_area_37
set_option maxRecDepth 20000 in
theorem t_X6_area_0 {X : Cx} (o : Ok X RX6 cX6_area 4 3 76 0 0 (some .int)) (f : Nat)  (x0 : Nat) (x1 : Int32) (x2 : Int32) (x3 : Int32) (h : Hp) : Sim X (z_Zi X 0 0) 0 0 0 [(0, rf (xG X) x0), (1, .int x1), (2, .int x2), (3, .int x3)] [] h (f_X6_area f x0 x1 x2 x3 h) := by
  unfold f_X6_area
  refine s_iload_n o 1 rfl dX6_area_0 (q := 1) rfl ?_
  refine s_bi (fun r0 hr0 => runS o cs_X6_267 (c_X6_isBand (xG X) f x1 h (xl X) r0 hr0) ⟨Nat.le_of_ble_eq_true rfl, Nat.le_of_ble_eq_true rfl⟩ rfl rfl (Nat.le_of_ble_eq_true rfl) dX6_area_1 ⟨Nat.le_of_ble_eq_true rfl, Nat.le_of_ble_eq_true rfl⟩) (q := 4) rfl (cs' := 0) rfl (sl' := 0) rfl (fun v2_ h1_ => ?_)
  refine s_if_ne o (tgt := 11) dX6_area_4 (by decide) (q := 7) rfl ?_ ?_
  · refine s_iload_n o 2 rfl dX6_area_11 (q := 12) rfl ?_
    refine s_i2l o dX6_area_12 (q := 13) rfl ?_
    refine s_lconst o dX6_area_13 (v := (0 : Int64)) (by decide) (q := 14) rfl ?_
    refine s_ldc2 o kl_X6_333 dX6_area_14 (q := 17) rfl ?_
    refine s_bi (fun r0 hr0 => runS o cs_X6_114 (c_X6_in (xG X) f x2.toInt64 (0 : Int64) (63 : Int64) h1_ (xl X) r0 hr0) ⟨Nat.le_of_ble_eq_true rfl, Nat.le_of_ble_eq_true rfl⟩ rfl rfl (Nat.le_of_ble_eq_true rfl) dX6_area_17 ⟨Nat.le_of_ble_eq_true rfl, Nat.le_of_ble_eq_true rfl⟩) (q := 20) rfl (cs' := 0) rfl (sl' := 0) rfl (fun v4_ h3_ => ?_)
    refine s_if_eq o (tgt := 35) dX6_area_20 (by decide) (q := 23) rfl ?_ ?_
    · exact s_sub [] rfl (t_X6_area_35 o f h3_)
    · refine s_iload_n o 3 rfl dX6_area_23 (q := 24) rfl ?_
      refine s_i2l o dX6_area_24 (q := 25) rfl ?_
      refine s_lconst o dX6_area_25 (v := (0 : Int64)) (by decide) (q := 26) rfl ?_
      refine s_ldc2 o kl_X6_315 dX6_area_26 (q := 29) rfl ?_
      refine s_bi (fun r0 hr0 => runS o cs_X6_114 (c_X6_in (xG X) f x3.toInt64 (0 : Int64) (3 : Int64) h3_ (xl X) r0 hr0) ⟨Nat.le_of_ble_eq_true rfl, Nat.le_of_ble_eq_true rfl⟩ rfl rfl (Nat.le_of_ble_eq_true rfl) dX6_area_29 ⟨Nat.le_of_ble_eq_true rfl, Nat.le_of_ble_eq_true rfl⟩) (q := 32) rfl (cs' := 0) rfl (sl' := 0) rfl (fun v6_ h5_ => ?_)
      refine s_if_ne o (tgt := 38) dX6_area_32 (by decide) (q := 35) rfl ?_ ?_
      · refine s_aload_n o 0 rfl dX6_area_38 (q := 39) rfl ?_
        refine s_gi o kf_X6_111 dX6_area_39 (q := 42) rfl (fun v7_ => ?_)
        refine s_if_eq o (tgt := 65) dX6_area_42 (by decide) (q := 45) rfl ?_ ?_
        · exact s_sub [] rfl (t_X6_area_65 o f h5_)
        · refine s_iload_n o 2 rfl dX6_area_45 (q := 46) rfl ?_
          refine s_bi (fun r0 hr0 => runS o cs_X6_306 (c_X6_bits (xG X) f x2 h5_ (xl X) r0 hr0) ⟨Nat.le_of_ble_eq_true rfl, Nat.le_of_ble_eq_true rfl⟩ rfl rfl (Nat.le_of_ble_eq_true rfl) dX6_area_46 ⟨Nat.le_of_ble_eq_true rfl, Nat.le_of_ble_eq_true rfl⟩) (q := 49) rfl (cs' := 0) rfl (sl' := 0) rfl (fun v9_ h8_ => ?_)
          refine s_aload_n o 0 rfl dX6_area_49 (q := 50) rfl ?_
          refine s_gi o kf_X6_250 dX6_area_50 (q := 53) rfl (fun v10_ => ?_)
          refine s_ic_ne o (tgt := 65) dX6_area_53 (by decide) (q := 56) rfl ?_ ?_
          · exact s_sub [] rfl (t_X6_area_65 o f h8_)
          · refine s_aload_n o 0 rfl dX6_area_56 (q := 57) rfl ?_
            refine s_iload_n o 1 rfl dX6_area_57 (q := 58) rfl ?_
            refine s_iload_n o 2 rfl dX6_area_58 (q := 59) rfl ?_
            refine s_on (fun hk11_ => ?_)
            refine s_bi (fun r0 hr0 => runV o hk11_ cv_X6_309 (c_X6_mayLie (xG X) f x0 x1 x2 h8_ (xl X) r0 hr0) ⟨Nat.le_of_ble_eq_true rfl, Nat.le_of_ble_eq_true rfl⟩ rfl rfl (Nat.le_of_ble_eq_true rfl) dX6_area_59 ⟨Nat.le_of_ble_eq_true rfl, Nat.le_of_ble_eq_true rfl⟩) (q := 62) rfl (cs' := 0) rfl (sl' := 0) rfl (fun v13_ h12_ => ?_)
            refine s_if_ne o (tgt := 69) dX6_area_62 (by decide) (q := 65) rfl ?_ ?_
            · refine s_aload_n o 0 rfl dX6_area_69 (q := 70) rfl ?_
              refine s_on (fun hk14_ => ?_)
              refine s_callv (fun r0 hr0 => runV o hk14_ cv_X6_318 (c_X6_findArea (xG X) f x0 h12_ (xl X) r0 hr0) ⟨Nat.le_of_ble_eq_true rfl, Nat.le_of_ble_eq_true rfl⟩ rfl rfl (Nat.le_of_ble_eq_true rfl) dX6_area_70 ⟨Nat.le_of_ble_eq_true rfl, Nat.le_of_ble_eq_true rfl⟩) (q := 73) rfl (cs' := 0) rfl (sl' := 0) rfl (fun h15_ => ?_)
              refine s_aload_n o 0 rfl dX6_area_73 (q := 74) rfl ?_
              refine s_gr o kf_X6_78 dX6_area_74 (q := 77) rfl (fun a16_ => ?_)
              refine s_iload_n o 3 rfl dX6_area_77 (q := 78) rfl ?_
              refine s_iald o dX6_area_78 (q := 79) rfl (fun v17_ => ?_)
              exact s_iret o dX6_area_79
            · exact s_sub [] rfl (t_X6_area_65 o f h12_)
      · exact s_sub [] rfl (t_X6_area_35 o f h5_)
  · refine s_ldcw o kc_X6_266 dX6_area_7 (q := 10) rfl ?_
    exact s_iret o dX6_area_10
theorem c_X6_area (G : Gx) (f : Nat) (x0 : Nat) (x1 : Int32) (x2 : Int32) (x3 : Int32) (h : Hp) : z_M z_qi G yX6_area cX6_area 4 (some .int) 3 76 0 0 [rf G x0, .int x1, .int x2, .int x3] h (f_X6_area f x0 x1 x2 x3 h) :=
  z_met (by decide +kernel) (Nat.le_of_ble_eq_true rfl) (fun X hG hn o hnm => by
    subst hG
    show Sim X (z_Zi X 0 0) 0 0 0 [(0, rf (xG X) x0), (1, .int x1), (2, .int x2), (3, .int x3)] [] h _
    exact s_sub [0, 1, 2, 3] rfl (t_X6_area_0 o f x0 x1 x2 x3 h))
