/-! SixMaps$Island.put(IIII)V -/
def f_X0_put (f : Nat)  (x0 : Nat) (x1 : Int32) (x2 : Int32) (x3 : Int32) (x4 : Int32) (h : Hp) : Option (Hp) :=
  (q_gr h x0 0 2).bind fun a1_ =>
  (q_as h a1_ 9 ((x1 * (9 : Int32)) + x2) x3).bind fun h2_ =>
  (q_gr h2_ x0 0 3).bind fun a3_ =>
  (q_as h2_ a3_ 9 ((x1 * (9 : Int32)) + x2) x4).bind fun h4_ =>
  some h4_
set_option maxRecDepth 20000 in
theorem t_X0_put_0 {X : Cx} (o : Ok X RX0 cX0_put 5 0 0 0 0 none) (f : Nat)  (x0 : Nat) (x1 : Int32) (x2 : Int32) (x3 : Int32) (x4 : Int32) (h : Hp) : Sim X (z_Zv X 0 0) 0 0 0 [(0, rf (xG X) x0), (1, .int x1), (2, .int x2), (3, .int x3), (4, .int x4)] [] h (f_X0_put f x0 x1 x2 x3 x4 h) := by
  unfold f_X0_put
  refine s_aload_n o 0 rfl dX0_put_0 (q := 1) rfl ?_
  refine s_gr o kf_X0_18 dX0_put_1 (q := 4) rfl (fun a1_ => ?_)
  refine s_iload_n o 1 rfl dX0_put_4 (q := 5) rfl ?_
  refine s_bipush o dX0_put_5 (v := (9 : Int32)) (by decide) (q := 7) rfl ?_
  refine s_imul o dX0_put_7 (q := 8) rfl ?_
  refine s_iload_n o 2 rfl dX0_put_8 (q := 9) rfl ?_
  refine s_iadd o dX0_put_9 (q := 10) rfl ?_
  refine s_iload_n o 3 rfl dX0_put_10 (q := 11) rfl ?_
  refine s_iast o dX0_put_11 (q := 12) rfl (fun h2_ => ?_)
  refine s_aload_n o 0 rfl dX0_put_12 (q := 13) rfl ?_
  refine s_gr o kf_X0_21 dX0_put_13 (q := 16) rfl (fun a3_ => ?_)
  refine s_iload_n o 1 rfl dX0_put_16 (q := 17) rfl ?_
  refine s_bipush o dX0_put_17 (v := (9 : Int32)) (by decide) (q := 19) rfl ?_
  refine s_imul o dX0_put_19 (q := 20) rfl ?_
  refine s_iload_n o 2 rfl dX0_put_20 (q := 21) rfl ?_
  refine s_iadd o dX0_put_21 (q := 22) rfl ?_
  refine s_iload o 4 rfl dX0_put_22 (q := 24) rfl ?_
  refine s_iast o dX0_put_24 (q := 25) rfl (fun h4_ => ?_)
  exact s_vret o dX0_put_25
theorem c_X0_put (G : Gx) (f : Nat) (x0 : Nat) (x1 : Int32) (x2 : Int32) (x3 : Int32) (x4 : Int32) (h : Hp) : z_M z_qv G yX0_put cX0_put 5 none 0 0 0 0 [rf G x0, .int x1, .int x2, .int x3, .int x4] h (f_X0_put f x0 x1 x2 x3 x4 h) :=
  z_met (by decide +kernel) (Nat.le_of_ble_eq_true rfl) (fun X hG hn o hnm => by
    subst hG
    show Sim X (z_Zv X 0 0) 0 0 0 [(0, rf (xG X) x0), (1, .int x1), (2, .int x2), (3, .int x3), (4, .int x4)] [] h _
    exact s_sub [0, 1, 2, 3, 4] rfl (t_X0_put_0 o f x0 x1 x2 x3 x4 h))
/-! SixMaps$Judge.narrow(II)V -/
def f_X1_narrow (f : Nat)  (x0 : Nat) (x1 : Int32) (x2 : Int32) (h : Hp) : Option (Hp) :=
  (q_gr h x0 1 1).bind fun a1_ =>
  (q_ai h a1_ 9 ((x1 * (9 : Int32)) + x2)).bind fun v2_ =>
  (q_gr h x0 1 2).bind fun a3_ =>
  (q_ai h a3_ 9 ((x1 * (9 : Int32)) + x2)).bind fun v4_ =>
  (q_gr h x0 1 3).bind fun a5_ =>
  (q_gr h x0 1 3).bind fun a6_ =>
  (q_ai h a6_ 9 x2).bind fun v7_ =>
  (q_gr h x0 1 9).bind fun a8_ =>
  (q_gi h a8_ 0 7).bind fun v9_ =>
  (q_as h a5_ 9 x2 (if v7_ < (v2_ - v9_) then (v2_ - v9_) else v7_)).bind fun h10_ =>
  (q_gr h10_ x0 1 4).bind fun a11_ =>
  (q_gr h10_ x0 1 4).bind fun a12_ =>
  (q_ai h10_ a12_ 9 x2).bind fun v13_ =>
  (q_gr h10_ x0 1 9).bind fun a14_ =>
  (q_gi h10_ a14_ 0 7).bind fun v15_ =>
  (q_as h10_ a11_ 9 x2 (if (v2_ + v15_) < v13_ then (v2_ + v15_) else v13_)).bind fun h16_ =>
  (q_gr h16_ x0 1 5).bind fun a17_ =>
  (q_gr h16_ x0 1 5).bind fun a18_ =>
  (q_ai h16_ a18_ 9 x2).bind fun v19_ =>
  (q_gr h16_ x0 1 9).bind fun a20_ =>
  (q_gi h16_ a20_ 0 7).bind fun v21_ =>
  (q_as h16_ a17_ 9 x2 (if v19_ < (v4_ - v21_) then (v4_ - v21_) else v19_)).bind fun h22_ =>
  (q_gr h22_ x0 1 6).bind fun a23_ =>
  (q_gr h22_ x0 1 6).bind fun a24_ =>
  (q_ai h22_ a24_ 9 x2).bind fun v25_ =>
  (q_gr h22_ x0 1 9).bind fun a26_ =>
  (q_gi h22_ a26_ 0 7).bind fun v27_ =>
  (q_as h22_ a23_ 9 x2 (if (v4_ + v27_) < v25_ then (v4_ + v27_) else v25_)).bind fun h28_ =>
  (q_gi h28_ x0 1 13).bind fun v29_ =>
  (q_pi h28_ x0 1 13 (v29_ ||| ((1 : Int32) <<< (x2 &&& 31)))).bind fun h30_ =>
  some h30_
set_option maxRecDepth 20000 in
theorem t_X1_narrow_0 {X : Cx} (o : Ok X RX1 cX1_narrow 5 1 15 0 0 none) (f : Nat)  (x0 : Nat) (x1 : Int32) (x2 : Int32) (h : Hp) : Sim X (z_Zv X 0 0) 0 0 0 [(0, rf (xG X) x0), (1, .int x1), (2, .int x2)] [] h (f_X1_narrow f x0 x1 x2 h) := by
  unfold f_X1_narrow
  refine s_aload_n o 0 rfl dX1_narrow_0 (q := 1) rfl ?_
  refine s_gr o kf_X1_15 dX1_narrow_1 (q := 4) rfl (fun a1_ => ?_)
  refine s_iload_n o 1 rfl dX1_narrow_4 (q := 5) rfl ?_
  refine s_bipush o dX1_narrow_5 (v := (9 : Int32)) (by decide) (q := 7) rfl ?_
  refine s_imul o dX1_narrow_7 (q := 8) rfl ?_
  refine s_iload_n o 2 rfl dX1_narrow_8 (q := 9) rfl ?_
  refine s_iadd o dX1_narrow_9 (q := 10) rfl ?_
  refine s_iald o dX1_narrow_10 (q := 11) rfl (fun v2_ => ?_)
  refine s_istore_n o [1, 2, 3, 0] (lv' := [(0, rf (xG X) x0), (1, .int x1), (2, .int x2), (3, .int v2_)]) rfl dX1_narrow_11 (by decide) (q := 12) rfl ?_
  refine s_aload_n o 0 rfl dX1_narrow_12 (q := 13) rfl ?_
  refine s_gr o kf_X1_18 dX1_narrow_13 (q := 16) rfl (fun a3_ => ?_)
  refine s_iload_n o 1 rfl dX1_narrow_16 (q := 17) rfl ?_
  refine s_bipush o dX1_narrow_17 (v := (9 : Int32)) (by decide) (q := 19) rfl ?_
  refine s_imul o dX1_narrow_19 (q := 20) rfl ?_
  refine s_iload_n o 2 rfl dX1_narrow_20 (q := 21) rfl ?_
  refine s_iadd o dX1_narrow_21 (q := 22) rfl ?_
  refine s_iald o dX1_narrow_22 (q := 23) rfl (fun v4_ => ?_)
  refine s_istore o [1, 2, 3, 4, 0] (lv' := [(0, rf (xG X) x0), (1, .int x1), (2, .int x2), (3, .int v2_), (4, .int v4_)]) rfl dX1_narrow_23 (by decide) (q := 25) rfl ?_
  refine s_aload_n o 0 rfl dX1_narrow_25 (q := 26) rfl ?_
  refine s_gr o kf_X1_21 dX1_narrow_26 (q := 29) rfl (fun a5_ => ?_)
  refine s_iload_n o 2 rfl dX1_narrow_29 (q := 30) rfl ?_
  refine s_aload_n o 0 rfl dX1_narrow_30 (q := 31) rfl ?_
  refine s_gr o kf_X1_21 dX1_narrow_31 (q := 34) rfl (fun a6_ => ?_)
  refine s_iload_n o 2 rfl dX1_narrow_34 (q := 35) rfl ?_
  refine s_iald o dX1_narrow_35 (q := 36) rfl (fun v7_ => ?_)
  refine s_iload_n o 3 rfl dX1_narrow_36 (q := 37) rfl ?_
  refine s_aload_n o 0 rfl dX1_narrow_37 (q := 38) rfl ?_
  refine s_gr o kf_X1_42 dX1_narrow_38 (q := 41) rfl (fun a8_ => ?_)
  refine s_gi o kf_X1_157 dX1_narrow_41 (q := 44) rfl (fun v9_ => ?_)
  refine s_isub o dX1_narrow_44 (q := 45) rfl ?_
  refine s_max o mw_X1_113 (Nat.le_of_ble_eq_true rfl) (Nat.le_of_ble_eq_true rfl) (by decide) (by decide) dX1_narrow_45 (q := 48) rfl ?_
  refine s_iast o dX1_narrow_48 (q := 49) rfl (fun h10_ => ?_)
  refine s_aload_n o 0 rfl dX1_narrow_49 (q := 50) rfl ?_
  refine s_gr o kf_X1_24 dX1_narrow_50 (q := 53) rfl (fun a11_ => ?_)
  refine s_iload_n o 2 rfl dX1_narrow_53 (q := 54) rfl ?_
  refine s_aload_n o 0 rfl dX1_narrow_54 (q := 55) rfl ?_
  refine s_gr o kf_X1_24 dX1_narrow_55 (q := 58) rfl (fun a12_ => ?_)
  refine s_iload_n o 2 rfl dX1_narrow_58 (q := 59) rfl ?_
  refine s_iald o dX1_narrow_59 (q := 60) rfl (fun v13_ => ?_)
  refine s_iload_n o 3 rfl dX1_narrow_60 (q := 61) rfl ?_
  refine s_aload_n o 0 rfl dX1_narrow_61 (q := 62) rfl ?_
  refine s_gr o kf_X1_42 dX1_narrow_62 (q := 65) rfl (fun a14_ => ?_)
  refine s_gi o kf_X1_157 dX1_narrow_65 (q := 68) rfl (fun v15_ => ?_)
  refine s_iadd o dX1_narrow_68 (q := 69) rfl ?_
  refine s_min o mw_X1_160 (Nat.le_of_ble_eq_true rfl) (Nat.le_of_ble_eq_true rfl) (by decide) (by decide) dX1_narrow_69 (q := 72) rfl ?_
  refine s_iast o dX1_narrow_72 (q := 73) rfl (fun h16_ => ?_)
  refine s_aload_n o 0 rfl dX1_narrow_73 (q := 74) rfl ?_
  refine s_gr o kf_X1_27 dX1_narrow_74 (q := 77) rfl (fun a17_ => ?_)
  refine s_iload_n o 2 rfl dX1_narrow_77 (q := 78) rfl ?_
  refine s_aload_n o 0 rfl dX1_narrow_78 (q := 79) rfl ?_
  refine s_gr o kf_X1_27 dX1_narrow_79 (q := 82) rfl (fun a18_ => ?_)
  refine s_iload_n o 2 rfl dX1_narrow_82 (q := 83) rfl ?_
  refine s_iald o dX1_narrow_83 (q := 84) rfl (fun v19_ => ?_)
  refine s_iload o 4 rfl dX1_narrow_84 (q := 86) rfl ?_
  refine s_aload_n o 0 rfl dX1_narrow_86 (q := 87) rfl ?_
  refine s_gr o kf_X1_42 dX1_narrow_87 (q := 90) rfl (fun a20_ => ?_)
  refine s_gi o kf_X1_157 dX1_narrow_90 (q := 93) rfl (fun v21_ => ?_)
  refine s_isub o dX1_narrow_93 (q := 94) rfl ?_
  refine s_max o mw_X1_113 (Nat.le_of_ble_eq_true rfl) (Nat.le_of_ble_eq_true rfl) (by decide) (by decide) dX1_narrow_94 (q := 97) rfl ?_
  refine s_iast o dX1_narrow_97 (q := 98) rfl (fun h22_ => ?_)
  refine s_aload_n o 0 rfl dX1_narrow_98 (q := 99) rfl ?_
  refine s_gr o kf_X1_30 dX1_narrow_99 (q := 102) rfl (fun a23_ => ?_)
  refine s_iload_n o 2 rfl dX1_narrow_102 (q := 103) rfl ?_
  refine s_aload_n o 0 rfl dX1_narrow_103 (q := 104) rfl ?_
  refine s_gr o kf_X1_30 dX1_narrow_104 (q := 107) rfl (fun a24_ => ?_)
  refine s_iload_n o 2 rfl dX1_narrow_107 (q := 108) rfl ?_
  refine s_iald o dX1_narrow_108 (q := 109) rfl (fun v25_ => ?_)
  refine s_iload o 4 rfl dX1_narrow_109 (q := 111) rfl ?_
  refine s_aload_n o 0 rfl dX1_narrow_111 (q := 112) rfl ?_
  refine s_gr o kf_X1_42 dX1_narrow_112 (q := 115) rfl (fun a26_ => ?_)
  refine s_gi o kf_X1_157 dX1_narrow_115 (q := 118) rfl (fun v27_ => ?_)
  refine s_iadd o dX1_narrow_118 (q := 119) rfl ?_
  refine s_min o mw_X1_160 (Nat.le_of_ble_eq_true rfl) (Nat.le_of_ble_eq_true rfl) (by decide) (by decide) dX1_narrow_119 (q := 122) rfl ?_
  refine s_iast o dX1_narrow_122 (q := 123) rfl (fun h28_ => ?_)
  refine s_aload_n o 0 rfl dX1_narrow_123 (q := 124) rfl ?_
  refine s_dup o rfl dX1_narrow_124 (q := 125) rfl ?_
  refine s_gi o kf_X1_60 dX1_narrow_125 (q := 128) rfl (fun v29_ => ?_)
  refine s_iconst o dX1_narrow_128 (v := (1 : Int32)) (by decide) (q := 129) rfl ?_
  refine s_iload_n o 2 rfl dX1_narrow_129 (q := 130) rfl ?_
  refine s_ishl o dX1_narrow_130 (q := 131) rfl ?_
  refine s_ior o dX1_narrow_131 (q := 132) rfl ?_
  refine s_pi o kf_X1_60 dX1_narrow_132 (q := 135) rfl (fun h30_ => ?_)
  exact s_vret o dX1_narrow_135
theorem c_X1_narrow (G : Gx) (f : Nat) (x0 : Nat) (x1 : Int32) (x2 : Int32) (h : Hp) : z_M z_qv G yX1_narrow cX1_narrow 5 none 1 15 0 0 [rf G x0, .int x1, .int x2] h (f_X1_narrow f x0 x1 x2 h) :=
  z_met (by decide +kernel) (Nat.le_of_ble_eq_true rfl) (fun X hG hn o hnm => by
    subst hG
    show Sim X (z_Zv X 0 0) 0 0 0 [(0, rf (xG X) x0), (1, .int x1), (2, .int x2)] [] h _
    exact s_sub [0, 1, 2] rfl (t_X1_narrow_0 o f x0 x1 x2 h))
/-! SixMaps.isIn(II)Z -/
def b_X5_isIn_13 (f : Nat)  (y0 : Int32) (h : Hp) : Option (Int32 × Hp) :=
  q_bo y0 (some (y0, h))
def f_X5_isIn (f : Nat)  (x0 : Int32) (x1 : Int32) (h : Hp) : Option (Int32 × Hp) :=
  if ((x0 >>> (x1 &&& 31)) &&& (1 : Int32)) = 0 then
  (b_X5_isIn_13 f (0 : Int32) h)
  else
  (b_X5_isIn_13 f (1 : Int32) h)
set_option maxRecDepth 20000 in
theorem t_X5_isIn_13 {X : Cx} (o : Ok X RX5 cX5_isIn 2 0 0 0 0 (some .boolean)) (f : Nat)  (y0 : Int32) (h : Hp) : Sim X (z_Zi X 0 0) 0 0 13 [] [.int y0] h (b_X5_isIn_13 f y0 h) := by
  unfold b_X5_isIn_13
  exact s_zret o dX5_isIn_13
set_option maxRecDepth 20000 in
theorem t_X5_isIn_0 {X : Cx} (o : Ok X RX5 cX5_isIn 2 0 0 0 0 (some .boolean)) (f : Nat)  (x0 : Int32) (x1 : Int32) (h : Hp) : Sim X (z_Zi X 0 0) 0 0 0 [(0, .int x0), (1, .int x1)] [] h (f_X5_isIn f x0 x1 h) := by
  unfold f_X5_isIn
  refine s_iload_n o 0 rfl dX5_isIn_0 (q := 1) rfl ?_
  refine s_iload_n o 1 rfl dX5_isIn_1 (q := 2) rfl ?_
  refine s_ishr o dX5_isIn_2 (q := 3) rfl ?_
  refine s_iconst o dX5_isIn_3 (v := (1 : Int32)) (by decide) (q := 4) rfl ?_
  refine s_iand o dX5_isIn_4 (q := 5) rfl ?_
  refine s_if_eq o (tgt := 12) dX5_isIn_5 (by decide) (q := 8) rfl ?_ ?_
  · refine s_iconst o dX5_isIn_12 (v := (0 : Int32)) (by decide) (q := 13) rfl ?_
    exact s_sub [] rfl (t_X5_isIn_13 o f (0 : Int32) h)
  · refine s_iconst o dX5_isIn_8 (v := (1 : Int32)) (by decide) (q := 9) rfl ?_
    refine s_goto o (tgt := 13) dX5_isIn_9 (by decide) ?_
    exact s_sub [] rfl (t_X5_isIn_13 o f (1 : Int32) h)
theorem c_X5_isIn (G : Gx) (f : Nat) (x0 : Int32) (x1 : Int32) (h : Hp) : z_M z_qi G yX5_isIn cX5_isIn 2 (some .boolean) 0 0 0 0 [.int x0, .int x1] h (f_X5_isIn f x0 x1 h) :=
  z_met (by decide +kernel) (Nat.le_of_ble_eq_true rfl) (fun X hG hn o hnm => by
    subst hG
    show Sim X (z_Zi X 0 0) 0 0 0 [(0, .int x0), (1, .int x1)] [] h _
    exact s_sub [0, 1] rfl (t_X5_isIn_0 o f x0 x1 h))
/-! SixMaps$Judge.arePlacesLeft(I)Z -/
def b_X1_arePlacesLeft_121 (f : Nat)   (h : Hp) : Option (Int32 × Hp) :=
  q_bo (0 : Int32) (some ((0 : Int32), h))
def b_X1_arePlacesLeft_85 (f : Nat) (k7 : Nat → Int32 → Int32 → Hp → Option (Int32 × Hp)) (k52 : Nat → Int32 → Int32 → Int32 → Hp → Option (Int32 × Hp)) (x0 : Nat) (x1 : Int32) (x2 : Int32) (x3 : Int32) (h : Hp) : Option (Int32 × Hp) :=
  lt (x3 + (1 : Int32)) fun v1_ =>
  k52 x0 x1 x2 v1_ h
def b_X1_arePlacesLeft_52 (f : Nat) (k7 : Nat → Int32 → Int32 → Hp → Option (Int32 × Hp)) (k52 : Nat → Int32 → Int32 → Int32 → Hp → Option (Int32 × Hp)) (x0 : Nat) (x1 : Int32) (x2 : Int32) (x3 : Int32) (h : Hp) : Option (Int32 × Hp) :=
  if (6 : Int32) ≤ x3 then
  ((q_gr h x0 1 3).bind fun a1_ =>
  (q_ai h a1_ 9 x2).bind fun v2_ =>
  (q_gr h x0 1 4).bind fun a3_ =>
  (q_ai h a3_ 9 x2).bind fun v4_ =>
  if v4_ < v2_ then
  (b_X1_arePlacesLeft_121 f h)
  else
  ((q_gr h x0 1 5).bind fun a5_ =>
  (q_ai h a5_ 9 x2).bind fun v6_ =>
  (q_gr h x0 1 6).bind fun a7_ =>
  (q_ai h a7_ 9 x2).bind fun v8_ =>
  if v6_ ≤ v8_ then
  (lt (x2 + (1 : Int32)) fun v9_ =>
  k7 x0 x1 v9_ h)
  else
  (b_X1_arePlacesLeft_121 f h)))
  else
  (bi (f_X5_isIn f x1 x3 h) fun v11_ h10_ =>
  if ¬ v11_ = 0 then
  (b_X1_arePlacesLeft_85 f k7 k52 x0 x1 x2 x3 h10_)
  else
  ((q_gr h10_ x0 1 0).bind fun a12_ =>
  (q_ai h10_ a12_ 9 x3).bind fun v13_ =>
  bi (f_X5_isIn f v13_ x2 h10_) fun v15_ h14_ =>
  if v15_ = 0 then
  (b_X1_arePlacesLeft_85 f k7 k52 x0 x1 x2 x3 h14_)
  else
  (q_on h14_ x0 1 (
  (f_X1_narrow f x0 x3 x2 h14_).bind fun h17_ =>
  b_X1_arePlacesLeft_85 f k7 k52 x0 x1 x2 x3 h17_))))
def l_X1_arePlacesLeft_52 (f : Nat) (k7 : Nat → Int32 → Int32 → Hp → Option (Int32 × Hp)) : Nat → Nat → Int32 → Int32 → Int32 → Hp → Option (Int32 × Hp)
  | 0, _, _, _, _, _ => none
  | n + 1, x0, x1, x2, x3, h => b_X1_arePlacesLeft_52 f k7 (l_X1_arePlacesLeft_52 f k7 n) x0 x1 x2 x3 h
def b_X1_arePlacesLeft_7 (f : Nat) (k7 : Nat → Int32 → Int32 → Hp → Option (Int32 × Hp)) (x0 : Nat) (x1 : Int32) (x2 : Int32) (h : Hp) : Option (Int32 × Hp) :=
  (q_gr h x0 1 9).bind fun a1_ =>
  (q_gi h a1_ 0 4).bind fun v2_ =>
  if v2_ ≤ x2 then
  (q_bo (1 : Int32) (some ((1 : Int32), h)))
  else
  ((q_gr h x0 1 3).bind fun a3_ =>
  (q_as h a3_ 9 x2 (-1000000 : Int32)).bind fun h4_ =>
  (q_gr h4_ x0 1 4).bind fun a5_ =>
  (q_as h4_ a5_ 9 x2 (1000000 : Int32)).bind fun h6_ =>
  (q_gr h6_ x0 1 5).bind fun a7_ =>
  (q_as h6_ a7_ 9 x2 (-1000000 : Int32)).bind fun h8_ =>
  (q_gr h8_ x0 1 6).bind fun a9_ =>
  (q_as h8_ a9_ 9 x2 (1000000 : Int32)).bind fun h10_ =>
  l_X1_arePlacesLeft_52 f k7 f x0 x1 x2 (0 : Int32) h10_)
def l_X1_arePlacesLeft_7 (f : Nat)  : Nat → Nat → Int32 → Int32 → Hp → Option (Int32 × Hp)
  | 0, _, _, _, _ => none
  | n + 1, x0, x1, x2, h => b_X1_arePlacesLeft_7 f  (l_X1_arePlacesLeft_7 f  n) x0 x1 x2 h
def f_X1_arePlacesLeft (f : Nat)  (x0 : Nat) (x1 : Int32) (h : Hp) : Option (Int32 × Hp) :=
  (q_pi h x0 1 13 (0 : Int32)).bind fun h1_ =>
  l_X1_arePlacesLeft_7 f f x0 x1 (0 : Int32) h1_
set_option maxRecDepth 20000 in
theorem t_X1_arePlacesLeft_121 {X : Cx} (o : Ok X RX1 cX1_arePlacesLeft 4 2 39 0 0 (some .boolean)) (f : Nat)   (h : Hp) : Sim X (z_Zi X 0 0) 0 0 121 [] [] h (b_X1_arePlacesLeft_121 f h) := by
  unfold b_X1_arePlacesLeft_121
  refine s_iconst o dX1_arePlacesLeft_121 (v := (0 : Int32)) (by decide) (q := 122) rfl ?_
  exact s_zret o dX1_arePlacesLeft_122
set_option maxRecDepth 20000 in
theorem t_X1_arePlacesLeft_85 {X : Cx} (o : Ok X RX1 cX1_arePlacesLeft 4 2 39 0 0 (some .boolean)) (f : Nat) {k7 : Nat → Int32 → Int32 → Hp → Option (Int32 × Hp)} (hk7 : ∀ (x0 : Nat) (x1 : Int32) (x2 : Int32) (h : Hp), Sim X (z_Zi X 0 0) 0 0 7 [(0, rf (xG X) x0), (1, .int x1), (2, .int x2)] [] h (k7 x0 x1 x2 h)) {k52 : Nat → Int32 → Int32 → Int32 → Hp → Option (Int32 × Hp)} (hk52 : ∀ (x0 : Nat) (x1 : Int32) (x2 : Int32) (x3 : Int32) (h : Hp), Sim X (z_Zi X 0 0) 0 0 52 [(0, rf (xG X) x0), (1, .int x1), (2, .int x2), (3, .int x3)] [] h (k52 x0 x1 x2 x3 h)) (x0 : Nat) (x1 : Int32) (x2 : Int32) (x3 : Int32) (h : Hp) : Sim X (z_Zi X 0 0) 0 0 85 [(0, rf (xG X) x0), (1, .int x1), (2, .int x2), (3, .int x3)] [] h (b_X1_arePlacesLeft_85 f k7 k52 x0 x1 x2 x3 h) := by
  unfold b_X1_arePlacesLeft_85
  refine s_iinc o 3 rfl (v := (1 : Int32)) (by decide) [1, 2, 3, 0] (lv' := fun v1_ => [(0, rf (xG X) x0), (1, .int x1), (2, .int x2), (3, .int v1_)]) (fun _ => rfl) dX1_arePlacesLeft_85 (by decide) (q := 88) rfl (fun v1_ => ?_)
  refine s_goto o (tgt := 52) dX1_arePlacesLeft_88 (by decide) ?_
  exact s_sub [0, 1, 2, 3] rfl (hk52 x0 x1 x2 v1_ h)
set_option maxRecDepth 20000 in
theorem t_X1_arePlacesLeft_52 {X : Cx} (o : Ok X RX1 cX1_arePlacesLeft 4 2 39 0 0 (some .boolean)) (f : Nat) {k7 : Nat → Int32 → Int32 → Hp → Option (Int32 × Hp)} (hk7 : ∀ (x0 : Nat) (x1 : Int32) (x2 : Int32) (h : Hp), Sim X (z_Zi X 0 0) 0 0 7 [(0, rf (xG X) x0), (1, .int x1), (2, .int x2)] [] h (k7 x0 x1 x2 h)) {k52 : Nat → Int32 → Int32 → Int32 → Hp → Option (Int32 × Hp)} (hk52 : ∀ (x0 : Nat) (x1 : Int32) (x2 : Int32) (x3 : Int32) (h : Hp), Sim X (z_Zi X 0 0) 0 0 52 [(0, rf (xG X) x0), (1, .int x1), (2, .int x2), (3, .int x3)] [] h (k52 x0 x1 x2 x3 h)) (x0 : Nat) (x1 : Int32) (x2 : Int32) (x3 : Int32) (h : Hp) : Sim X (z_Zi X 0 0) 0 0 52 [(0, rf (xG X) x0), (1, .int x1), (2, .int x2), (3, .int x3)] [] h (b_X1_arePlacesLeft_52 f k7 k52 x0 x1 x2 x3 h) := by
  unfold b_X1_arePlacesLeft_52
  refine s_iload_n o 3 rfl dX1_arePlacesLeft_52 (q := 53) rfl ?_
  refine s_bipush o dX1_arePlacesLeft_53 (v := (6 : Int32)) (by decide) (q := 55) rfl ?_
  refine s_ic_ge o (tgt := 91) dX1_arePlacesLeft_55 (by decide) (q := 58) rfl ?_ ?_
  · refine s_aload_n o 0 rfl dX1_arePlacesLeft_91 (q := 92) rfl ?_
    refine s_gr o kf_X1_21 dX1_arePlacesLeft_92 (q := 95) rfl (fun a1_ => ?_)
    refine s_iload_n o 2 rfl dX1_arePlacesLeft_95 (q := 96) rfl ?_
    refine s_iald o dX1_arePlacesLeft_96 (q := 97) rfl (fun v2_ => ?_)
    refine s_aload_n o 0 rfl dX1_arePlacesLeft_97 (q := 98) rfl ?_
    refine s_gr o kf_X1_24 dX1_arePlacesLeft_98 (q := 101) rfl (fun a3_ => ?_)
    refine s_iload_n o 2 rfl dX1_arePlacesLeft_101 (q := 102) rfl ?_
    refine s_iald o dX1_arePlacesLeft_102 (q := 103) rfl (fun v4_ => ?_)
    refine s_ic_gt o (tgt := 121) dX1_arePlacesLeft_103 (by decide) (q := 106) rfl ?_ ?_
    · exact s_sub [] rfl (t_X1_arePlacesLeft_121 o f h)
    · refine s_aload_n o 0 rfl dX1_arePlacesLeft_106 (q := 107) rfl ?_
      refine s_gr o kf_X1_27 dX1_arePlacesLeft_107 (q := 110) rfl (fun a5_ => ?_)
      refine s_iload_n o 2 rfl dX1_arePlacesLeft_110 (q := 111) rfl ?_
      refine s_iald o dX1_arePlacesLeft_111 (q := 112) rfl (fun v6_ => ?_)
      refine s_aload_n o 0 rfl dX1_arePlacesLeft_112 (q := 113) rfl ?_
      refine s_gr o kf_X1_30 dX1_arePlacesLeft_113 (q := 116) rfl (fun a7_ => ?_)
      refine s_iload_n o 2 rfl dX1_arePlacesLeft_116 (q := 117) rfl ?_
      refine s_iald o dX1_arePlacesLeft_117 (q := 118) rfl (fun v8_ => ?_)
      refine s_ic_le o (tgt := 123) dX1_arePlacesLeft_118 (by decide) (q := 121) rfl ?_ ?_
      · refine s_iinc o 2 rfl (v := (1 : Int32)) (by decide) [1, 2, 0, 3] (lv' := fun v9_ => [(0, rf (xG X) x0), (1, .int x1), (2, .int v9_), (3, .int x3)]) (fun _ => rfl) dX1_arePlacesLeft_123 (by decide) (q := 126) rfl (fun v9_ => ?_)
        refine s_goto o (tgt := 7) dX1_arePlacesLeft_126 (by decide) ?_
        exact s_sub [0, 1, 2] rfl (hk7 x0 x1 v9_ h)
      · exact s_sub [] rfl (t_X1_arePlacesLeft_121 o f h)
  · refine s_iload_n o 1 rfl dX1_arePlacesLeft_58 (q := 59) rfl ?_
    refine s_iload_n o 3 rfl dX1_arePlacesLeft_59 (q := 60) rfl ?_
    refine s_bi (fun r0 hr0 => runN o cn_X1_105 (c_X5_isIn (xG X) f x1 x3 h (xl X) r0 hr0) ⟨Nat.le_of_ble_eq_true rfl, Nat.le_of_ble_eq_true rfl⟩ rfl rfl (Nat.le_of_ble_eq_true rfl) dX1_arePlacesLeft_60 ⟨Nat.le_of_ble_eq_true rfl, Nat.le_of_ble_eq_true rfl⟩) (q := 63) rfl (cs' := 0) rfl (sl' := 0) rfl (fun v11_ h10_ => ?_)
    refine s_if_ne o (tgt := 85) dX1_arePlacesLeft_63 (by decide) (q := 66) rfl ?_ ?_
    · exact s_sub [0, 1, 2, 3] rfl (t_X1_arePlacesLeft_85 o f hk7 hk52 x0 x1 x2 x3 h10_)
    · refine s_aload_n o 0 rfl dX1_arePlacesLeft_66 (q := 67) rfl ?_
      refine s_gr o kf_X1_9 dX1_arePlacesLeft_67 (q := 70) rfl (fun a12_ => ?_)
      refine s_iload_n o 3 rfl dX1_arePlacesLeft_70 (q := 71) rfl ?_
      refine s_iald o dX1_arePlacesLeft_71 (q := 72) rfl (fun v13_ => ?_)
      refine s_iload_n o 2 rfl dX1_arePlacesLeft_72 (q := 73) rfl ?_
      refine s_bi (fun r0 hr0 => runN o cn_X1_105 (c_X5_isIn (xG X) f v13_ x2 h10_ (xl X) r0 hr0) ⟨Nat.le_of_ble_eq_true rfl, Nat.le_of_ble_eq_true rfl⟩ rfl rfl (Nat.le_of_ble_eq_true rfl) dX1_arePlacesLeft_73 ⟨Nat.le_of_ble_eq_true rfl, Nat.le_of_ble_eq_true rfl⟩) (q := 76) rfl (cs' := 0) rfl (sl' := 0) rfl (fun v15_ h14_ => ?_)
      refine s_if_eq o (tgt := 85) dX1_arePlacesLeft_76 (by decide) (q := 79) rfl ?_ ?_
      · exact s_sub [0, 1, 2, 3] rfl (t_X1_arePlacesLeft_85 o f hk7 hk52 x0 x1 x2 x3 h14_)
      · refine s_aload_n o 0 rfl dX1_arePlacesLeft_79 (q := 80) rfl ?_
        refine s_iload_n o 3 rfl dX1_arePlacesLeft_80 (q := 81) rfl ?_
        refine s_iload_n o 2 rfl dX1_arePlacesLeft_81 (q := 82) rfl ?_
        refine s_on (fun hk16_ => ?_)
        refine s_callv (fun r0 hr0 => runV o hk16_ cv_X1_154 (c_X1_narrow (xG X) f x0 x3 x2 h14_ (xl X) r0 hr0) ⟨Nat.le_of_ble_eq_true rfl, Nat.le_of_ble_eq_true rfl⟩ rfl rfl (Nat.le_of_ble_eq_true rfl) dX1_arePlacesLeft_82 ⟨Nat.le_of_ble_eq_true rfl, Nat.le_of_ble_eq_true rfl⟩) (q := 85) rfl (cs' := 0) rfl (sl' := 0) rfl (fun h17_ => ?_)
        exact s_sub [0, 1, 2, 3] rfl (t_X1_arePlacesLeft_85 o f hk7 hk52 x0 x1 x2 x3 h17_)
theorem tl_X1_arePlacesLeft_52 {X : Cx} (o : Ok X RX1 cX1_arePlacesLeft 4 2 39 0 0 (some .boolean)) (f : Nat) {k7 : Nat → Int32 → Int32 → Hp → Option (Int32 × Hp)} (hk7 : ∀ (x0 : Nat) (x1 : Int32) (x2 : Int32) (h : Hp), Sim X (z_Zi X 0 0) 0 0 7 [(0, rf (xG X) x0), (1, .int x1), (2, .int x2)] [] h (k7 x0 x1 x2 h)) : ∀ (n : Nat) (x0 : Nat) (x1 : Int32) (x2 : Int32) (x3 : Int32) (h : Hp), Sim X (z_Zi X 0 0) 0 0 52 [(0, rf (xG X) x0), (1, .int x1), (2, .int x2), (3, .int x3)] [] h (l_X1_arePlacesLeft_52 f k7 n x0 x1 x2 x3 h) := by
  intro n
  induction n with
  | zero => intro x0 x1 x2 x3 h; exact s_none
  | succ n ih => intro x0 x1 x2 x3 h; exact t_X1_arePlacesLeft_52 o f hk7 ih x0 x1 x2 x3 h
set_option maxRecDepth 20000 in
theorem t_X1_arePlacesLeft_7 {X : Cx} (o : Ok X RX1 cX1_arePlacesLeft 4 2 39 0 0 (some .boolean)) (f : Nat) {k7 : Nat → Int32 → Int32 → Hp → Option (Int32 × Hp)} (hk7 : ∀ (x0 : Nat) (x1 : Int32) (x2 : Int32) (h : Hp), Sim X (z_Zi X 0 0) 0 0 7 [(0, rf (xG X) x0), (1, .int x1), (2, .int x2)] [] h (k7 x0 x1 x2 h)) (x0 : Nat) (x1 : Int32) (x2 : Int32) (h : Hp) : Sim X (z_Zi X 0 0) 0 0 7 [(0, rf (xG X) x0), (1, .int x1), (2, .int x2)] [] h (b_X1_arePlacesLeft_7 f k7 x0 x1 x2 h) := by
  unfold b_X1_arePlacesLeft_7
  refine s_iload_n o 2 rfl dX1_arePlacesLeft_7 (q := 8) rfl ?_
  refine s_aload_n o 0 rfl dX1_arePlacesLeft_8 (q := 9) rfl ?_
  refine s_gr o kf_X1_42 dX1_arePlacesLeft_9 (q := 12) rfl (fun a1_ => ?_)
  refine s_gi o kf_X1_92 dX1_arePlacesLeft_12 (q := 15) rfl (fun v2_ => ?_)
  refine s_ic_ge o (tgt := 129) dX1_arePlacesLeft_15 (by decide) (q := 18) rfl ?_ ?_
  · refine s_iconst o dX1_arePlacesLeft_129 (v := (1 : Int32)) (by decide) (q := 130) rfl ?_
    exact s_zret o dX1_arePlacesLeft_130
  · refine s_aload_n o 0 rfl dX1_arePlacesLeft_18 (q := 19) rfl ?_
    refine s_gr o kf_X1_21 dX1_arePlacesLeft_19 (q := 22) rfl (fun a3_ => ?_)
    refine s_iload_n o 2 rfl dX1_arePlacesLeft_22 (q := 23) rfl ?_
    refine s_ldc o kc_X1_152 dX1_arePlacesLeft_23 (q := 25) rfl ?_
    refine s_iast o dX1_arePlacesLeft_25 (q := 26) rfl (fun h4_ => ?_)
    refine s_aload_n o 0 rfl dX1_arePlacesLeft_26 (q := 27) rfl ?_
    refine s_gr o kf_X1_24 dX1_arePlacesLeft_27 (q := 30) rfl (fun a5_ => ?_)
    refine s_iload_n o 2 rfl dX1_arePlacesLeft_30 (q := 31) rfl ?_
    refine s_ldc o kc_X1_153 dX1_arePlacesLeft_31 (q := 33) rfl ?_
    refine s_iast o dX1_arePlacesLeft_33 (q := 34) rfl (fun h6_ => ?_)
    refine s_aload_n o 0 rfl dX1_arePlacesLeft_34 (q := 35) rfl ?_
    refine s_gr o kf_X1_27 dX1_arePlacesLeft_35 (q := 38) rfl (fun a7_ => ?_)
    refine s_iload_n o 2 rfl dX1_arePlacesLeft_38 (q := 39) rfl ?_
    refine s_ldc o kc_X1_152 dX1_arePlacesLeft_39 (q := 41) rfl ?_
    refine s_iast o dX1_arePlacesLeft_41 (q := 42) rfl (fun h8_ => ?_)
    refine s_aload_n o 0 rfl dX1_arePlacesLeft_42 (q := 43) rfl ?_
    refine s_gr o kf_X1_30 dX1_arePlacesLeft_43 (q := 46) rfl (fun a9_ => ?_)
    refine s_iload_n o 2 rfl dX1_arePlacesLeft_46 (q := 47) rfl ?_
    refine s_ldc o kc_X1_153 dX1_arePlacesLeft_47 (q := 49) rfl ?_
    refine s_iast o dX1_arePlacesLeft_49 (q := 50) rfl (fun h10_ => ?_)
    refine s_iconst o dX1_arePlacesLeft_50 (v := (0 : Int32)) (by decide) (q := 51) rfl ?_
    refine s_istore_n o [1, 2, 3, 0] (lv' := [(0, rf (xG X) x0), (1, .int x1), (2, .int x2), (3, .int (0 : Int32))]) rfl dX1_arePlacesLeft_51 (by decide) (q := 52) rfl ?_
    exact s_sub [0, 1, 2, 3] rfl (tl_X1_arePlacesLeft_52 o f hk7 f x0 x1 x2 (0 : Int32) h10_)
theorem tl_X1_arePlacesLeft_7 {X : Cx} (o : Ok X RX1 cX1_arePlacesLeft 4 2 39 0 0 (some .boolean)) (f : Nat)  : ∀ (n : Nat) (x0 : Nat) (x1 : Int32) (x2 : Int32) (h : Hp), Sim X (z_Zi X 0 0) 0 0 7 [(0, rf (xG X) x0), (1, .int x1), (2, .int x2)] [] h (l_X1_arePlacesLeft_7 f n x0 x1 x2 h) := by
  intro n
  induction n with
  | zero => intro x0 x1 x2 h; exact s_none
  | succ n ih => intro x0 x1 x2 h; exact t_X1_arePlacesLeft_7 o f  ih x0 x1 x2 h
set_option maxRecDepth 20000 in
theorem t_X1_arePlacesLeft_0 {X : Cx} (o : Ok X RX1 cX1_arePlacesLeft 4 2 39 0 0 (some .boolean)) (f : Nat)  (x0 : Nat) (x1 : Int32) (h : Hp) : Sim X (z_Zi X 0 0) 0 0 0 [(0, rf (xG X) x0), (1, .int x1)] [] h (f_X1_arePlacesLeft f x0 x1 h) := by
  unfold f_X1_arePlacesLeft
  refine s_aload_n o 0 rfl dX1_arePlacesLeft_0 (q := 1) rfl ?_
  refine s_iconst o dX1_arePlacesLeft_1 (v := (0 : Int32)) (by decide) (q := 2) rfl ?_
  refine s_pi o kf_X1_60 dX1_arePlacesLeft_2 (q := 5) rfl (fun h1_ => ?_)
  refine s_iconst o dX1_arePlacesLeft_5 (v := (0 : Int32)) (by decide) (q := 6) rfl ?_
  refine s_istore_n o [1, 2, 0] (lv' := [(0, rf (xG X) x0), (1, .int x1), (2, .int (0 : Int32))]) rfl dX1_arePlacesLeft_6 (by decide) (q := 7) rfl ?_
  exact s_sub [0, 1, 2] rfl (tl_X1_arePlacesLeft_7 o f f x0 x1 (0 : Int32) h1_)
theorem c_X1_arePlacesLeft (G : Gx) (f : Nat) (x0 : Nat) (x1 : Int32) (h : Hp) : z_M z_qi G yX1_arePlacesLeft cX1_arePlacesLeft 4 (some .boolean) 2 39 0 0 [rf G x0, .int x1] h (f_X1_arePlacesLeft f x0 x1 h) :=
  z_met (by decide +kernel) (Nat.le_of_ble_eq_true rfl) (fun X hG hn o hnm => by
    subst hG
    show Sim X (z_Zi X 0 0) 0 0 0 [(0, rf (xG X) x0), (1, .int x1)] [] h _
    exact s_sub [0, 1] rfl (t_X1_arePlacesLeft_0 o f x0 x1 h))
/-! SixMaps.isBand(I)Z -/
def b_X5_isBand_15 (f : Nat)  (y0 : Int32) (h : Hp) : Option (Int32 × Hp) :=
  q_bo y0 (some (y0, h))
def b_X5_isBand_14 (f : Nat)   (h : Hp) : Option (Int32 × Hp) :=
  b_X5_isBand_15 f (0 : Int32) h
def f_X5_isBand (f : Nat)  (x0 : Int32) (h : Hp) : Option (Int32 × Hp) :=
  if x0 < 0 then
  (b_X5_isBand_14 f h)
  else
  (if (6 : Int32) ≤ x0 then
  (b_X5_isBand_14 f h)
  else
  (b_X5_isBand_15 f (1 : Int32) h))
set_option maxRecDepth 20000 in
theorem t_X5_isBand_15 {X : Cx} (o : Ok X RX5 cX5_isBand 1 0 0 0 0 (some .boolean)) (f : Nat)  (y0 : Int32) (h : Hp) : Sim X (z_Zi X 0 0) 0 0 15 [] [.int y0] h (b_X5_isBand_15 f y0 h) := by
  unfold b_X5_isBand_15
  exact s_zret o dX5_isBand_15
set_option maxRecDepth 20000 in
theorem t_X5_isBand_14 {X : Cx} (o : Ok X RX5 cX5_isBand 1 0 0 0 0 (some .boolean)) (f : Nat)   (h : Hp) : Sim X (z_Zi X 0 0) 0 0 14 [] [] h (b_X5_isBand_14 f h) := by
  unfold b_X5_isBand_14
  refine s_iconst o dX5_isBand_14 (v := (0 : Int32)) (by decide) (q := 15) rfl ?_
  exact s_sub [] rfl (t_X5_isBand_15 o f (0 : Int32) h)
set_option maxRecDepth 20000 in
theorem t_X5_isBand_0 {X : Cx} (o : Ok X RX5 cX5_isBand 1 0 0 0 0 (some .boolean)) (f : Nat)  (x0 : Int32) (h : Hp) : Sim X (z_Zi X 0 0) 0 0 0 [(0, .int x0)] [] h (f_X5_isBand f x0 h) := by
  unfold f_X5_isBand
  refine s_iload_n o 0 rfl dX5_isBand_0 (q := 1) rfl ?_
  refine s_if_lt o (tgt := 14) dX5_isBand_1 (by decide) (q := 4) rfl ?_ ?_
  · exact s_sub [] rfl (t_X5_isBand_14 o f h)
  · refine s_iload_n o 0 rfl dX5_isBand_4 (q := 5) rfl ?_
    refine s_bipush o dX5_isBand_5 (v := (6 : Int32)) (by decide) (q := 7) rfl ?_
    refine s_ic_ge o (tgt := 14) dX5_isBand_7 (by decide) (q := 10) rfl ?_ ?_
    · exact s_sub [] rfl (t_X5_isBand_14 o f h)
    · refine s_iconst o dX5_isBand_10 (v := (1 : Int32)) (by decide) (q := 11) rfl ?_
      refine s_goto o (tgt := 15) dX5_isBand_11 (by decide) ?_
      exact s_sub [] rfl (t_X5_isBand_15 o f (1 : Int32) h)
theorem c_X5_isBand (G : Gx) (f : Nat) (x0 : Int32) (h : Hp) : z_M z_qi G yX5_isBand cX5_isBand 1 (some .boolean) 0 0 0 0 [.int x0] h (f_X5_isBand f x0 h) :=
  z_met (by decide +kernel) (Nat.le_of_ble_eq_true rfl) (fun X hG hn o hnm => by
    subst hG
    show Sim X (z_Zi X 0 0) 0 0 0 [(0, .int x0)] [] h _
    exact s_sub [0] rfl (t_X5_isBand_0 o f x0 h))
/-! SixMaps.areTwoBands(II)Z -/
def b_X5_areTwoBands_24 (f : Nat)  (y0 : Int32) (h : Hp) : Option (Int32 × Hp) :=
  q_bo y0 (some (y0, h))
def b_X5_areTwoBands_23 (f : Nat)   (h : Hp) : Option (Int32 × Hp) :=
  b_X5_areTwoBands_24 f (0 : Int32) h
def f_X5_areTwoBands (f : Nat)  (x0 : Int32) (x1 : Int32) (h : Hp) : Option (Int32 × Hp) :=
  bi (f_X5_isBand f x0 h) fun v2_ h1_ =>
  if v2_ = 0 then
  (b_X5_areTwoBands_23 f h1_)
  else
  (bi (f_X5_isBand f x1 h1_) fun v4_ h3_ =>
  if v4_ = 0 then
  (b_X5_areTwoBands_23 f h3_)
  else
  (if x0 = x1 then
  (b_X5_areTwoBands_23 f h3_)
  else
  (b_X5_areTwoBands_24 f (1 : Int32) h3_)))
set_option maxRecDepth 20000 in
theorem t_X5_areTwoBands_24 {X : Cx} (o : Ok X RX5 cX5_areTwoBands 2 1 20 0 0 (some .boolean)) (f : Nat)  (y0 : Int32) (h : Hp) : Sim X (z_Zi X 0 0) 0 0 24 [] [.int y0] h (b_X5_areTwoBands_24 f y0 h) := by
  unfold b_X5_areTwoBands_24
  exact s_zret o dX5_areTwoBands_24
set_option maxRecDepth 20000 in
theorem t_X5_areTwoBands_23 {X : Cx} (o : Ok X RX5 cX5_areTwoBands 2 1 20 0 0 (some .boolean)) (f : Nat)   (h : Hp) : Sim X (z_Zi X 0 0) 0 0 23 [] [] h (b_X5_areTwoBands_23 f h) := by
  unfold b_X5_areTwoBands_23
  refine s_iconst o dX5_areTwoBands_23 (v := (0 : Int32)) (by decide) (q := 24) rfl ?_
  exact s_sub [] rfl (t_X5_areTwoBands_24 o f (0 : Int32) h)
set_option maxRecDepth 20000 in
theorem t_X5_areTwoBands_0 {X : Cx} (o : Ok X RX5 cX5_areTwoBands 2 1 20 0 0 (some .boolean)) (f : Nat)  (x0 : Int32) (x1 : Int32) (h : Hp) : Sim X (z_Zi X 0 0) 0 0 0 [(0, .int x0), (1, .int x1)] [] h (f_X5_areTwoBands f x0 x1 h) := by
  unfold f_X5_areTwoBands
  refine s_iload_n o 0 rfl dX5_areTwoBands_0 (q := 1) rfl ?_
  refine s_bi (fun r0 hr0 => runS o cs_X5_124 (c_X5_isBand (xG X) f x0 h (xl X) r0 hr0) ⟨Nat.le_of_ble_eq_true rfl, Nat.le_of_ble_eq_true rfl⟩ rfl rfl (Nat.le_of_ble_eq_true rfl) dX5_areTwoBands_1 ⟨Nat.le_of_ble_eq_true rfl, Nat.le_of_ble_eq_true rfl⟩) (q := 4) rfl (cs' := 0) rfl (sl' := 0) rfl (fun v2_ h1_ => ?_)
  refine s_if_eq o (tgt := 23) dX5_areTwoBands_4 (by decide) (q := 7) rfl ?_ ?_
  · exact s_sub [] rfl (t_X5_areTwoBands_23 o f h1_)
  · refine s_iload_n o 1 rfl dX5_areTwoBands_7 (q := 8) rfl ?_
    refine s_bi (fun r0 hr0 => runS o cs_X5_124 (c_X5_isBand (xG X) f x1 h1_ (xl X) r0 hr0) ⟨Nat.le_of_ble_eq_true rfl, Nat.le_of_ble_eq_true rfl⟩ rfl rfl (Nat.le_of_ble_eq_true rfl) dX5_areTwoBands_8 ⟨Nat.le_of_ble_eq_true rfl, Nat.le_of_ble_eq_true rfl⟩) (q := 11) rfl (cs' := 0) rfl (sl' := 0) rfl (fun v4_ h3_ => ?_)
    refine s_if_eq o (tgt := 23) dX5_areTwoBands_11 (by decide) (q := 14) rfl ?_ ?_
    · exact s_sub [] rfl (t_X5_areTwoBands_23 o f h3_)
    · refine s_iload_n o 0 rfl dX5_areTwoBands_14 (q := 15) rfl ?_
      refine s_iload_n o 1 rfl dX5_areTwoBands_15 (q := 16) rfl ?_
      refine s_ic_eq o (tgt := 23) dX5_areTwoBands_16 (by decide) (q := 19) rfl ?_ ?_
      · exact s_sub [] rfl (t_X5_areTwoBands_23 o f h3_)
      · refine s_iconst o dX5_areTwoBands_19 (v := (1 : Int32)) (by decide) (q := 20) rfl ?_
        refine s_goto o (tgt := 24) dX5_areTwoBands_20 (by decide) ?_
        exact s_sub [] rfl (t_X5_areTwoBands_24 o f (1 : Int32) h3_)
theorem c_X5_areTwoBands (G : Gx) (f : Nat) (x0 : Int32) (x1 : Int32) (h : Hp) : z_M z_qi G yX5_areTwoBands cX5_areTwoBands 2 (some .boolean) 1 20 0 0 [.int x0, .int x1] h (f_X5_areTwoBands f x0 x1 h) :=
  z_met (by decide +kernel) (Nat.le_of_ble_eq_true rfl) (fun X hG hn o hnm => by
    subst hG
    show Sim X (z_Zi X 0 0) 0 0 0 [(0, .int x0), (1, .int x1)] [] h _
    exact s_sub [0, 1] rfl (t_X5_areTwoBands_0 o f x0 x1 h))
/-! SixMapsModel.in(JJJ)Z -/
def b_X6_in_18 (f : Nat)  (y0 : Int32) (h : Hp) : Option (Int32 × Hp) :=
  q_bo y0 (some (y0, h))
def b_X6_in_17 (f : Nat)   (h : Hp) : Option (Int32 × Hp) :=
  b_X6_in_18 f (0 : Int32) h
def f_X6_in (f : Nat)  (x0 : Int64) (x2 : Int64) (x4 : Int64) (h : Hp) : Option (Int32 × Hp) :=
  if (lg_cmp x0 x2) < 0 then
  (b_X6_in_17 f h)
  else
  (if 0 < (lg_cmp x0 x4) then
  (b_X6_in_17 f h)
  else
  (b_X6_in_18 f (1 : Int32) h))
set_option maxRecDepth 20000 in
theorem t_X6_in_18 {X : Cx} (o : Ok X RX6 cX6_in 6 0 0 0 0 (some .boolean)) (f : Nat)  (y0 : Int32) (h : Hp) : Sim X (z_Zi X 0 0) 0 0 18 [] [.int y0] h (b_X6_in_18 f y0 h) := by
  unfold b_X6_in_18
  exact s_zret o dX6_in_18
set_option maxRecDepth 20000 in
theorem t_X6_in_17 {X : Cx} (o : Ok X RX6 cX6_in 6 0 0 0 0 (some .boolean)) (f : Nat)   (h : Hp) : Sim X (z_Zi X 0 0) 0 0 17 [] [] h (b_X6_in_17 f h) := by
  unfold b_X6_in_17
  refine s_iconst o dX6_in_17 (v := (0 : Int32)) (by decide) (q := 18) rfl ?_
  exact s_sub [] rfl (t_X6_in_18 o f (0 : Int32) h)
set_option maxRecDepth 20000 in
theorem t_X6_in_0 {X : Cx} (o : Ok X RX6 cX6_in 6 0 0 0 0 (some .boolean)) (f : Nat)  (x0 : Int64) (x2 : Int64) (x4 : Int64) (h : Hp) : Sim X (z_Zi X 0 0) 0 0 0 [(0, .long x0), (2, .long x2), (4, .long x4)] [] h (f_X6_in f x0 x2 x4 h) := by
  unfold f_X6_in
  refine s_lload_n o 0 rfl dX6_in_0 (q := 1) rfl ?_
  refine s_lload_n o 1 rfl dX6_in_1 (q := 2) rfl ?_
  refine s_lcmp o dX6_in_2 (q := 3) rfl ?_
  refine s_if_lt o (tgt := 17) dX6_in_3 (by decide) (q := 6) rfl ?_ ?_
  · exact s_sub [] rfl (t_X6_in_17 o f h)
  · refine s_lload_n o 0 rfl dX6_in_6 (q := 7) rfl ?_
    refine s_lload o 2 rfl dX6_in_7 (q := 9) rfl ?_
    refine s_lcmp o dX6_in_9 (q := 10) rfl ?_
    refine s_if_gt o (tgt := 17) dX6_in_10 (by decide) (q := 13) rfl ?_ ?_
    · exact s_sub [] rfl (t_X6_in_17 o f h)
    · refine s_iconst o dX6_in_13 (v := (1 : Int32)) (by decide) (q := 14) rfl ?_
      refine s_goto o (tgt := 18) dX6_in_14 (by decide) ?_
      exact s_sub [] rfl (t_X6_in_18 o f (1 : Int32) h)
theorem c_X6_in (G : Gx) (f : Nat) (x0 : Int64) (x2 : Int64) (x4 : Int64) (h : Hp) : z_M z_qi G yX6_in cX6_in 6 (some .boolean) 0 0 0 0 [.long x0, .long x2, .long x4] h (f_X6_in f x0 x2 x4 h) :=
  z_met (by decide +kernel) (Nat.le_of_ble_eq_true rfl) (fun X hG hn o hnm => by
    subst hG
    show Sim X (z_Zi X 0 0) 0 0 0 [(0, .long x0), (2, .long x2), (4, .long x4)] [] h _
    exact s_sub [0, 1, 2] rfl (t_X6_in_0 o f x0 x2 x4 h))
/-! SixMapsModel.isBand(I)Z -/
def f_X6_isBand (f : Nat)  (x0 : Int32) (h : Hp) : Option (Int32 × Hp) :=
  bi (f_X6_in f x0.toInt64 (0 : Int64) (5 : Int64) h) fun v2_ h1_ =>
  q_bo v2_ (some (v2_, h1_))
set_option maxRecDepth 20000 in
theorem t_X6_isBand_0 {X : Cx} (o : Ok X RX6 cX6_isBand 1 1 25 0 0 (some .boolean)) (f : Nat)  (x0 : Int32) (h : Hp) : Sim X (z_Zi X 0 0) 0 0 0 [(0, .int x0)] [] h (f_X6_isBand f x0 h) := by
  unfold f_X6_isBand
  refine s_iload_n o 0 rfl dX6_isBand_0 (q := 1) rfl ?_
  refine s_i2l o dX6_isBand_1 (q := 2) rfl ?_
  refine s_lconst o dX6_isBand_2 (v := (0 : Int64)) (by decide) (q := 3) rfl ?_
  refine s_ldc2 o kl_X6_118 dX6_isBand_3 (q := 6) rfl ?_
  refine s_bi (fun r0 hr0 => runS o cs_X6_114 (c_X6_in (xG X) f x0.toInt64 (0 : Int64) (5 : Int64) h (xl X) r0 hr0) ⟨Nat.le_of_ble_eq_true rfl, Nat.le_of_ble_eq_true rfl⟩ rfl rfl (Nat.le_of_ble_eq_true rfl) dX6_isBand_6 ⟨Nat.le_of_ble_eq_true rfl, Nat.le_of_ble_eq_true rfl⟩) (q := 9) rfl (cs' := 0) rfl (sl' := 0) rfl (fun v2_ h1_ => ?_)
  exact s_zret o dX6_isBand_9
theorem c_X6_isBand (G : Gx) (f : Nat) (x0 : Int32) (h : Hp) : z_M z_qi G yX6_isBand cX6_isBand 1 (some .boolean) 1 25 0 0 [.int x0] h (f_X6_isBand f x0 h) :=
  z_met (by decide +kernel) (Nat.le_of_ble_eq_true rfl) (fun X hG hn o hnm => by
    subst hG
    show Sim X (z_Zi X 0 0) 0 0 0 [(0, .int x0)] [] h _
    exact s_sub [0] rfl (t_X6_isBand_0 o f x0 h))
/-! SixMapsModel.bits(I)I -/
def b_X6_bits_4 (f : Nat) (k4 : Int32 → Int32 → Int32 → Hp → Option (Int32 × Hp)) (x0 : Int32) (x1 : Int32) (x2 : Int32) (h : Hp) : Option (Int32 × Hp) :=
  if (9 : Int32) ≤ x2 then
  (some (x1, h))
  else
  (lt (x1 + ((x0 >>> (x2 &&& 31)) &&& (1 : Int32))) fun v1_ =>
  lt (x2 + (1 : Int32)) fun v2_ =>
  k4 x0 v1_ v2_ h)
def l_X6_bits_4 (f : Nat)  : Nat → Int32 → Int32 → Int32 → Hp → Option (Int32 × Hp)
  | 0, _, _, _, _ => none
  | n + 1, x0, x1, x2, h => b_X6_bits_4 f  (l_X6_bits_4 f  n) x0 x1 x2 h
def f_X6_bits (f : Nat)  (x0 : Int32) (h : Hp) : Option (Int32 × Hp) :=
  l_X6_bits_4 f f x0 (0 : Int32) (0 : Int32) h
set_option maxRecDepth 20000 in
theorem t_X6_bits_4 {X : Cx} (o : Ok X RX6 cX6_bits 3 0 0 0 0 (some .int)) (f : Nat) {k4 : Int32 → Int32 → Int32 → Hp → Option (Int32 × Hp)} (hk4 : ∀ (x0 : Int32) (x1 : Int32) (x2 : Int32) (h : Hp), Sim X (z_Zi X 0 0) 0 0 4 [(0, .int x0), (1, .int x1), (2, .int x2)] [] h (k4 x0 x1 x2 h)) (x0 : Int32) (x1 : Int32) (x2 : Int32) (h : Hp) : Sim X (z_Zi X 0 0) 0 0 4 [(0, .int x0), (1, .int x1), (2, .int x2)] [] h (b_X6_bits_4 f k4 x0 x1 x2 h) := by
  unfold b_X6_bits_4
  refine s_iload_n o 2 rfl dX6_bits_4 (q := 5) rfl ?_
  refine s_bipush o dX6_bits_5 (v := (9 : Int32)) (by decide) (q := 7) rfl ?_
  refine s_ic_ge o (tgt := 24) dX6_bits_7 (by decide) (q := 10) rfl ?_ ?_
  · refine s_iload_n o 1 rfl dX6_bits_24 (q := 25) rfl ?_
    exact s_iret o dX6_bits_25
  · refine s_iload_n o 1 rfl dX6_bits_10 (q := 11) rfl ?_
    refine s_iload_n o 0 rfl dX6_bits_11 (q := 12) rfl ?_
    refine s_iload_n o 2 rfl dX6_bits_12 (q := 13) rfl ?_
    refine s_ishr o dX6_bits_13 (q := 14) rfl ?_
    refine s_iconst o dX6_bits_14 (v := (1 : Int32)) (by decide) (q := 15) rfl ?_
    refine s_iand o dX6_bits_15 (q := 16) rfl ?_
    refine s_iadd o dX6_bits_16 (q := 17) rfl ?_
    refine s_let (fun v1_ => ?_)
    refine s_istore_n o [1, 0, 2] (lv' := [(0, .int x0), (1, .int v1_), (2, .int x2)]) rfl dX6_bits_17 (by decide) (q := 18) rfl ?_
    refine s_iinc o 2 rfl (v := (1 : Int32)) (by decide) [1, 2, 0] (lv' := fun v2_ => [(0, .int x0), (1, .int v1_), (2, .int v2_)]) (fun _ => rfl) dX6_bits_18 (by decide) (q := 21) rfl (fun v2_ => ?_)
    refine s_goto o (tgt := 4) dX6_bits_21 (by decide) ?_
    exact s_sub [0, 1, 2] rfl (hk4 x0 v1_ v2_ h)
theorem tl_X6_bits_4 {X : Cx} (o : Ok X RX6 cX6_bits 3 0 0 0 0 (some .int)) (f : Nat)  : ∀ (n : Nat) (x0 : Int32) (x1 : Int32) (x2 : Int32) (h : Hp), Sim X (z_Zi X 0 0) 0 0 4 [(0, .int x0), (1, .int x1), (2, .int x2)] [] h (l_X6_bits_4 f n x0 x1 x2 h) := by
  intro n
  induction n with
  | zero => intro x0 x1 x2 h; exact s_none
  | succ n ih => intro x0 x1 x2 h; exact t_X6_bits_4 o f  ih x0 x1 x2 h
set_option maxRecDepth 20000 in
theorem t_X6_bits_0 {X : Cx} (o : Ok X RX6 cX6_bits 3 0 0 0 0 (some .int)) (f : Nat)  (x0 : Int32) (h : Hp) : Sim X (z_Zi X 0 0) 0 0 0 [(0, .int x0)] [] h (f_X6_bits f x0 h) := by
  unfold f_X6_bits
  refine s_iconst o dX6_bits_0 (v := (0 : Int32)) (by decide) (q := 1) rfl ?_
  refine s_istore_n o [1, 0] (lv' := [(0, .int x0), (1, .int (0 : Int32))]) rfl dX6_bits_1 (by decide) (q := 2) rfl ?_
  refine s_iconst o dX6_bits_2 (v := (0 : Int32)) (by decide) (q := 3) rfl ?_
  refine s_istore_n o [1, 2, 0] (lv' := [(0, .int x0), (1, .int (0 : Int32)), (2, .int (0 : Int32))]) rfl dX6_bits_3 (by decide) (q := 4) rfl ?_
  exact s_sub [0, 1, 2] rfl (tl_X6_bits_4 o f f x0 (0 : Int32) (0 : Int32) h)
theorem c_X6_bits (G : Gx) (f : Nat) (x0 : Int32) (h : Hp) : z_M z_qi G yX6_bits cX6_bits 3 (some .int) 0 0 0 0 [.int x0] h (f_X6_bits f x0 h) :=
  z_met (by decide +kernel) (Nat.le_of_ble_eq_true rfl) (fun X hG hn o hnm => by
    subst hG
    show Sim X (z_Zi X 0 0) 0 0 0 [(0, .int x0)] [] h _
    exact s_sub [0] rfl (t_X6_bits_0 o f x0 h))
/-! SixMapsModel.bare()V -/
def b_X6_bare_50 (f : Nat) (k2 : Nat → Int32 → Hp → Option (Hp)) (k17 : Nat → Int32 → Int32 → Hp → Option (Hp)) (x0 : Nat) (x1 : Int32) (x2 : Int32) (y0 : Nat) (y1 : Int32) (y2 : Int32) (h : Hp) : Option (Hp) :=
  (q_as h y0 9 y1 y2).bind fun h1_ =>
  lt (x2 + (1 : Int32)) fun v2_ =>
  k17 x0 x1 v2_ h1_
def b_X6_bare_17 (f : Nat) (k2 : Nat → Int32 → Hp → Option (Hp)) (k17 : Nat → Int32 → Int32 → Hp → Option (Hp)) (x0 : Nat) (x1 : Int32) (x2 : Int32) (h : Hp) : Option (Hp) :=
  if (6 : Int32) ≤ x2 then
  (lt (x1 + (1 : Int32)) fun v1_ =>
  k2 x0 v1_ h)
  else
  ((q_gr h x0 6 11).bind fun a2_ =>
  if ¬ x2 = x1 then
  (b_X6_bare_50 f k2 k17 x0 x1 x2 a2_ (((6 : Int32) * x1) + x2) (0 : Int32) h)
  else
  ((q_gi h x0 6 0).bind fun v3_ =>
  b_X6_bare_50 f k2 k17 x0 x1 x2 a2_ (((6 : Int32) * x1) + x2) (((1 : Int32) <<< (v3_ &&& 31)) - (1 : Int32)) h))
def l_X6_bare_17 (f : Nat) (k2 : Nat → Int32 → Hp → Option (Hp)) : Nat → Nat → Int32 → Int32 → Hp → Option (Hp)
  | 0, _, _, _, _ => none
  | n + 1, x0, x1, x2, h => b_X6_bare_17 f k2 (l_X6_bare_17 f k2 n) x0 x1 x2 h
def b_X6_bare_2 (f : Nat) (k2 : Nat → Int32 → Hp → Option (Hp)) (x0 : Nat) (x1 : Int32) (h : Hp) : Option (Hp) :=
  if (6 : Int32) ≤ x1 then
  ((q_pi h x0 6 13 (0 : Int32)).bind fun h1_ =>
  (q_pi h1_ x0 6 16 (-1 : Int32)).bind fun h2_ =>
  some h2_)
  else
  ((q_gr h x0 6 12).bind fun a3_ =>
  (q_as h a3_ 9 x1 (0 : Int32)).bind fun h4_ =>
  l_X6_bare_17 f k2 f x0 x1 (0 : Int32) h4_)
def l_X6_bare_2 (f : Nat)  : Nat → Nat → Int32 → Hp → Option (Hp)
  | 0, _, _, _ => none
  | n + 1, x0, x1, h => b_X6_bare_2 f  (l_X6_bare_2 f  n) x0 x1 h
def f_X6_bare (f : Nat)  (x0 : Nat) (h : Hp) : Option (Hp) :=
  l_X6_bare_2 f f x0 (0 : Int32) h
set_option maxRecDepth 20000 in
theorem t_X6_bare_50 {X : Cx} (o : Ok X RX6 cX6_bare 3 0 0 0 0 none) (f : Nat) {k2 : Nat → Int32 → Hp → Option (Hp)} (hk2 : ∀ (x0 : Nat) (x1 : Int32) (h : Hp), Sim X (z_Zv X 0 0) 0 0 2 [(0, rf (xG X) x0), (1, .int x1)] [] h (k2 x0 x1 h)) {k17 : Nat → Int32 → Int32 → Hp → Option (Hp)} (hk17 : ∀ (x0 : Nat) (x1 : Int32) (x2 : Int32) (h : Hp), Sim X (z_Zv X 0 0) 0 0 17 [(0, rf (xG X) x0), (1, .int x1), (2, .int x2)] [] h (k17 x0 x1 x2 h)) (x0 : Nat) (x1 : Int32) (x2 : Int32) (y0 : Nat) (y1 : Int32) (y2 : Int32) (h : Hp) : Sim X (z_Zv X 0 0) 0 0 50 [(0, rf (xG X) x0), (1, .int x1), (2, .int x2)] [.int y2, .int y1, rf (xG X) y0] h (b_X6_bare_50 f k2 k17 x0 x1 x2 y0 y1 y2 h) := by
  unfold b_X6_bare_50
  refine s_iast o dX6_bare_50 (q := 51) rfl (fun h1_ => ?_)
  refine s_iinc o 2 rfl (v := (1 : Int32)) (by decide) [1, 2, 0] (lv' := fun v2_ => [(0, rf (xG X) x0), (1, .int x1), (2, .int v2_)]) (fun _ => rfl) dX6_bare_51 (by decide) (q := 54) rfl (fun v2_ => ?_)
  refine s_goto o (tgt := 17) dX6_bare_54 (by decide) ?_
  exact s_sub [0, 1, 2] rfl (hk17 x0 x1 v2_ h1_)
set_option maxRecDepth 20000 in
theorem t_X6_bare_17 {X : Cx} (o : Ok X RX6 cX6_bare 3 0 0 0 0 none) (f : Nat) {k2 : Nat → Int32 → Hp → Option (Hp)} (hk2 : ∀ (x0 : Nat) (x1 : Int32) (h : Hp), Sim X (z_Zv X 0 0) 0 0 2 [(0, rf (xG X) x0), (1, .int x1)] [] h (k2 x0 x1 h)) {k17 : Nat → Int32 → Int32 → Hp → Option (Hp)} (hk17 : ∀ (x0 : Nat) (x1 : Int32) (x2 : Int32) (h : Hp), Sim X (z_Zv X 0 0) 0 0 17 [(0, rf (xG X) x0), (1, .int x1), (2, .int x2)] [] h (k17 x0 x1 x2 h)) (x0 : Nat) (x1 : Int32) (x2 : Int32) (h : Hp) : Sim X (z_Zv X 0 0) 0 0 17 [(0, rf (xG X) x0), (1, .int x1), (2, .int x2)] [] h (b_X6_bare_17 f k2 k17 x0 x1 x2 h) := by
  unfold b_X6_bare_17
  refine s_iload_n o 2 rfl dX6_bare_17 (q := 18) rfl ?_
  refine s_bipush o dX6_bare_18 (v := (6 : Int32)) (by decide) (q := 20) rfl ?_
  refine s_ic_ge o (tgt := 57) dX6_bare_20 (by decide) (q := 23) rfl ?_ ?_
  · refine s_iinc o 1 rfl (v := (1 : Int32)) (by decide) [1, 0, 2] (lv' := fun v1_ => [(0, rf (xG X) x0), (1, .int v1_), (2, .int x2)]) (fun _ => rfl) dX6_bare_57 (by decide) (q := 60) rfl (fun v1_ => ?_)
    refine s_goto o (tgt := 2) dX6_bare_60 (by decide) ?_
    exact s_sub [0, 1] rfl (hk2 x0 v1_ h)
  · refine s_aload_n o 0 rfl dX6_bare_23 (q := 24) rfl ?_
    refine s_gr o kf_X6_32 dX6_bare_24 (q := 27) rfl (fun a2_ => ?_)
    refine s_bipush o dX6_bare_27 (v := (6 : Int32)) (by decide) (q := 29) rfl ?_
    refine s_iload_n o 1 rfl dX6_bare_29 (q := 30) rfl ?_
    refine s_imul o dX6_bare_30 (q := 31) rfl ?_
    refine s_iload_n o 2 rfl dX6_bare_31 (q := 32) rfl ?_
    refine s_iadd o dX6_bare_32 (q := 33) rfl ?_
    refine s_iload_n o 2 rfl dX6_bare_33 (q := 34) rfl ?_
    refine s_iload_n o 1 rfl dX6_bare_34 (q := 35) rfl ?_
    refine s_ic_ne o (tgt := 49) dX6_bare_35 (by decide) (q := 38) rfl ?_ ?_
    · refine s_iconst o dX6_bare_49 (v := (0 : Int32)) (by decide) (q := 50) rfl ?_
      exact s_sub [0, 1, 2] rfl (t_X6_bare_50 o f hk2 hk17 x0 x1 x2 a2_ (((6 : Int32) * x1) + x2) (0 : Int32) h)
    · refine s_iconst o dX6_bare_38 (v := (1 : Int32)) (by decide) (q := 39) rfl ?_
      refine s_aload_n o 0 rfl dX6_bare_39 (q := 40) rfl ?_
      refine s_gi o kf_X6_111 dX6_bare_40 (q := 43) rfl (fun v3_ => ?_)
      refine s_ishl o dX6_bare_43 (q := 44) rfl ?_
      refine s_iconst o dX6_bare_44 (v := (1 : Int32)) (by decide) (q := 45) rfl ?_
      refine s_isub o dX6_bare_45 (q := 46) rfl ?_
      refine s_goto o (tgt := 50) dX6_bare_46 (by decide) ?_
      exact s_sub [0, 1, 2] rfl (t_X6_bare_50 o f hk2 hk17 x0 x1 x2 a2_ (((6 : Int32) * x1) + x2) (((1 : Int32) <<< (v3_ &&& 31)) - (1 : Int32)) h)
theorem tl_X6_bare_17 {X : Cx} (o : Ok X RX6 cX6_bare 3 0 0 0 0 none) (f : Nat) {k2 : Nat → Int32 → Hp → Option (Hp)} (hk2 : ∀ (x0 : Nat) (x1 : Int32) (h : Hp), Sim X (z_Zv X 0 0) 0 0 2 [(0, rf (xG X) x0), (1, .int x1)] [] h (k2 x0 x1 h)) : ∀ (n : Nat) (x0 : Nat) (x1 : Int32) (x2 : Int32) (h : Hp), Sim X (z_Zv X 0 0) 0 0 17 [(0, rf (xG X) x0), (1, .int x1), (2, .int x2)] [] h (l_X6_bare_17 f k2 n x0 x1 x2 h) := by
  intro n
  induction n with
  | zero => intro x0 x1 x2 h; exact s_none
  | succ n ih => intro x0 x1 x2 h; exact t_X6_bare_17 o f hk2 ih x0 x1 x2 h
set_option maxRecDepth 20000 in
theorem t_X6_bare_2 {X : Cx} (o : Ok X RX6 cX6_bare 3 0 0 0 0 none) (f : Nat) {k2 : Nat → Int32 → Hp → Option (Hp)} (hk2 : ∀ (x0 : Nat) (x1 : Int32) (h : Hp), Sim X (z_Zv X 0 0) 0 0 2 [(0, rf (xG X) x0), (1, .int x1)] [] h (k2 x0 x1 h)) (x0 : Nat) (x1 : Int32) (h : Hp) : Sim X (z_Zv X 0 0) 0 0 2 [(0, rf (xG X) x0), (1, .int x1)] [] h (b_X6_bare_2 f k2 x0 x1 h) := by
  unfold b_X6_bare_2
  refine s_iload_n o 1 rfl dX6_bare_2 (q := 3) rfl ?_
  refine s_bipush o dX6_bare_3 (v := (6 : Int32)) (by decide) (q := 5) rfl ?_
  refine s_ic_ge o (tgt := 63) dX6_bare_5 (by decide) (q := 8) rfl ?_ ?_
  · refine s_aload_n o 0 rfl dX6_bare_63 (q := 64) rfl ?_
    refine s_iconst o dX6_bare_64 (v := (0 : Int32)) (by decide) (q := 65) rfl ?_
    refine s_pi o kf_X6_120 dX6_bare_65 (q := 68) rfl (fun h1_ => ?_)
    refine s_aload_n o 0 rfl dX6_bare_68 (q := 69) rfl ?_
    refine s_iconst o dX6_bare_69 (v := (-1 : Int32)) (by decide) (q := 70) rfl ?_
    refine s_pi o kf_X6_44 dX6_bare_70 (q := 73) rfl (fun h2_ => ?_)
    exact s_vret o dX6_bare_73
  · refine s_aload_n o 0 rfl dX6_bare_8 (q := 9) rfl ?_
    refine s_gr o kf_X6_35 dX6_bare_9 (q := 12) rfl (fun a3_ => ?_)
    refine s_iload_n o 1 rfl dX6_bare_12 (q := 13) rfl ?_
    refine s_iconst o dX6_bare_13 (v := (0 : Int32)) (by decide) (q := 14) rfl ?_
    refine s_iast o dX6_bare_14 (q := 15) rfl (fun h4_ => ?_)
    refine s_iconst o dX6_bare_15 (v := (0 : Int32)) (by decide) (q := 16) rfl ?_
    refine s_istore_n o [1, 2, 0] (lv' := [(0, rf (xG X) x0), (1, .int x1), (2, .int (0 : Int32))]) rfl dX6_bare_16 (by decide) (q := 17) rfl ?_
    exact s_sub [0, 1, 2] rfl (tl_X6_bare_17 o f hk2 f x0 x1 (0 : Int32) h4_)
theorem tl_X6_bare_2 {X : Cx} (o : Ok X RX6 cX6_bare 3 0 0 0 0 none) (f : Nat)  : ∀ (n : Nat) (x0 : Nat) (x1 : Int32) (h : Hp), Sim X (z_Zv X 0 0) 0 0 2 [(0, rf (xG X) x0), (1, .int x1)] [] h (l_X6_bare_2 f n x0 x1 h) := by
  intro n
  induction n with
  | zero => intro x0 x1 h; exact s_none
  | succ n ih => intro x0 x1 h; exact t_X6_bare_2 o f  ih x0 x1 h
set_option maxRecDepth 20000 in
theorem t_X6_bare_0 {X : Cx} (o : Ok X RX6 cX6_bare 3 0 0 0 0 none) (f : Nat)  (x0 : Nat) (h : Hp) : Sim X (z_Zv X 0 0) 0 0 0 [(0, rf (xG X) x0)] [] h (f_X6_bare f x0 h) := by
  unfold f_X6_bare
  refine s_iconst o dX6_bare_0 (v := (0 : Int32)) (by decide) (q := 1) rfl ?_
  refine s_istore_n o [1, 0] (lv' := [(0, rf (xG X) x0), (1, .int (0 : Int32))]) rfl dX6_bare_1 (by decide) (q := 2) rfl ?_
  exact s_sub [0, 1] rfl (tl_X6_bare_2 o f f x0 (0 : Int32) h)
theorem c_X6_bare (G : Gx) (f : Nat) (x0 : Nat) (h : Hp) : z_M z_qv G yX6_bare cX6_bare 3 none 0 0 0 0 [rf G x0] h (f_X6_bare f x0 h) :=
  z_met (by decide +kernel) (Nat.le_of_ble_eq_true rfl) (fun X hG hn o hnm => by
    subst hG
    show Sim X (z_Zv X 0 0) 0 0 0 [(0, rf (xG X) x0)] [] h _
    exact s_sub [0] rfl (t_X6_bare_0 o f x0 h))
/-! SixMapsModel.here()I -/
def b_X6_here_62 (f : Nat)  (y0 : Int32) (h : Hp) : Option (Int32 × Hp) :=
  some (y0, h)
def b_X6_here_38 (f : Nat)  (x0 : Nat) (h : Hp) : Option (Int32 × Hp) :=
  (q_gi h x0 6 21).bind fun v1_ =>
  (q_gi h x0 6 19).bind fun v2_ =>
  if v2_ ≤ v1_ then
  (b_X6_here_62 f (-1 : Int32) h)
  else
  ((q_gr h x0 6 18).bind fun a3_ =>
  (q_gi h x0 6 21).bind fun v4_ =>
  (q_ai h a3_ 9 v4_).bind fun v5_ =>
  b_X6_here_62 f v5_ h)
def b_X6_here_0 (f : Nat) (k0 : Nat → Hp → Option (Int32 × Hp)) (x0 : Nat) (h : Hp) : Option (Int32 × Hp) :=
  (q_gi h x0 6 21).bind fun v1_ =>
  (q_gi h x0 6 19).bind fun v2_ =>
  if v2_ ≤ v1_ then
  (b_X6_here_38 f x0 h)
  else
  ((q_gr h x0 6 18).bind fun a3_ =>
  (q_gi h x0 6 21).bind fun v4_ =>
  (q_ai h a3_ 9 v4_).bind fun v5_ =>
  if ¬ v5_ = (32 : Int32) then
  (b_X6_here_38 f x0 h)
  else
  ((q_gi h x0 6 21).bind fun v6_ =>
  (q_pi h x0 6 21 (v6_ + (1 : Int32))).bind fun h7_ =>
  k0 x0 h7_))
def l_X6_here_0 (f : Nat)  : Nat → Nat → Hp → Option (Int32 × Hp)
  | 0, _, _ => none
  | n + 1, x0, h => b_X6_here_0 f  (l_X6_here_0 f  n) x0 h
def f_X6_here (f : Nat) (x0 : Nat) (h : Hp) : Option (Int32 × Hp) := l_X6_here_0 f f x0 h
set_option maxRecDepth 20000 in
theorem t_X6_here_62 {X : Cx} (o : Ok X RX6 cX6_here 1 0 0 0 0 (some .int)) (f : Nat)  (y0 : Int32) (h : Hp) : Sim X (z_Zi X 0 0) 0 0 62 [] [.int y0] h (b_X6_here_62 f y0 h) := by
  unfold b_X6_here_62
  exact s_iret o dX6_here_62
set_option maxRecDepth 20000 in
theorem t_X6_here_38 {X : Cx} (o : Ok X RX6 cX6_here 1 0 0 0 0 (some .int)) (f : Nat)  (x0 : Nat) (h : Hp) : Sim X (z_Zi X 0 0) 0 0 38 [(0, rf (xG X) x0)] [] h (b_X6_here_38 f x0 h) := by
  unfold b_X6_here_38
  refine s_aload_n o 0 rfl dX6_here_38 (q := 39) rfl ?_
  refine s_gi o kf_X6_132 dX6_here_39 (q := 42) rfl (fun v1_ => ?_)
  refine s_aload_n o 0 rfl dX6_here_42 (q := 43) rfl ?_
  refine s_gi o kf_X6_126 dX6_here_43 (q := 46) rfl (fun v2_ => ?_)
  refine s_ic_ge o (tgt := 61) dX6_here_46 (by decide) (q := 49) rfl ?_ ?_
  · refine s_iconst o dX6_here_61 (v := (-1 : Int32)) (by decide) (q := 62) rfl ?_
    exact s_sub [] rfl (t_X6_here_62 o f (-1 : Int32) h)
  · refine s_aload_n o 0 rfl dX6_here_49 (q := 50) rfl ?_
    refine s_gr o kf_X6_47 dX6_here_50 (q := 53) rfl (fun a3_ => ?_)
    refine s_aload_n o 0 rfl dX6_here_53 (q := 54) rfl ?_
    refine s_gi o kf_X6_132 dX6_here_54 (q := 57) rfl (fun v4_ => ?_)
    refine s_iald o dX6_here_57 (q := 58) rfl (fun v5_ => ?_)
    refine s_goto o (tgt := 62) dX6_here_58 (by decide) ?_
    exact s_sub [] rfl (t_X6_here_62 o f v5_ h)
set_option maxRecDepth 20000 in
theorem t_X6_here_0 {X : Cx} (o : Ok X RX6 cX6_here 1 0 0 0 0 (some .int)) (f : Nat) {k0 : Nat → Hp → Option (Int32 × Hp)} (hk0 : ∀ (x0 : Nat) (h : Hp), Sim X (z_Zi X 0 0) 0 0 0 [(0, rf (xG X) x0)] [] h (k0 x0 h)) (x0 : Nat) (h : Hp) : Sim X (z_Zi X 0 0) 0 0 0 [(0, rf (xG X) x0)] [] h (b_X6_here_0 f k0 x0 h) := by
  unfold b_X6_here_0
  refine s_aload_n o 0 rfl dX6_here_0 (q := 1) rfl ?_
  refine s_gi o kf_X6_132 dX6_here_1 (q := 4) rfl (fun v1_ => ?_)
  refine s_aload_n o 0 rfl dX6_here_4 (q := 5) rfl ?_
  refine s_gi o kf_X6_126 dX6_here_5 (q := 8) rfl (fun v2_ => ?_)
  refine s_ic_ge o (tgt := 38) dX6_here_8 (by decide) (q := 11) rfl ?_ ?_
  · exact s_sub [0] rfl (t_X6_here_38 o f x0 h)
  · refine s_aload_n o 0 rfl dX6_here_11 (q := 12) rfl ?_
    refine s_gr o kf_X6_47 dX6_here_12 (q := 15) rfl (fun a3_ => ?_)
    refine s_aload_n o 0 rfl dX6_here_15 (q := 16) rfl ?_
    refine s_gi o kf_X6_132 dX6_here_16 (q := 19) rfl (fun v4_ => ?_)
    refine s_iald o dX6_here_19 (q := 20) rfl (fun v5_ => ?_)
    refine s_bipush o dX6_here_20 (v := (32 : Int32)) (by decide) (q := 22) rfl ?_
    refine s_ic_ne o (tgt := 38) dX6_here_22 (by decide) (q := 25) rfl ?_ ?_
    · exact s_sub [0] rfl (t_X6_here_38 o f x0 h)
    · refine s_aload_n o 0 rfl dX6_here_25 (q := 26) rfl ?_
      refine s_dup o rfl dX6_here_26 (q := 27) rfl ?_
      refine s_gi o kf_X6_132 dX6_here_27 (q := 30) rfl (fun v6_ => ?_)
      refine s_iconst o dX6_here_30 (v := (1 : Int32)) (by decide) (q := 31) rfl ?_
      refine s_iadd o dX6_here_31 (q := 32) rfl ?_
      refine s_pi o kf_X6_132 dX6_here_32 (q := 35) rfl (fun h7_ => ?_)
      refine s_goto o (tgt := 0) dX6_here_35 (by decide) ?_
      exact s_sub [0] rfl (hk0 x0 h7_)
theorem tl_X6_here_0 {X : Cx} (o : Ok X RX6 cX6_here 1 0 0 0 0 (some .int)) (f : Nat)  : ∀ (n : Nat) (x0 : Nat) (h : Hp), Sim X (z_Zi X 0 0) 0 0 0 [(0, rf (xG X) x0)] [] h (l_X6_here_0 f n x0 h) := by
  intro n
  induction n with
  | zero => intro x0 h; exact s_none
  | succ n ih => intro x0 h; exact t_X6_here_0 o f  ih x0 h
theorem c_X6_here (G : Gx) (f : Nat) (x0 : Nat) (h : Hp) : z_M z_qi G yX6_here cX6_here 1 (some .int) 0 0 0 0 [rf G x0] h (f_X6_here f x0 h) :=
  z_met (by decide +kernel) (Nat.le_of_ble_eq_true rfl) (fun X hG hn o hnm => by
    subst hG
    show Sim X (z_Zi X 0 0) 0 0 0 [(0, rf (xG X) x0)] [] h _
    exact s_sub [0] rfl (tl_X6_here_0 o f f x0 h))
