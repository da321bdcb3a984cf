/-! SixMapsModel.worthOf(I)I -/
def f_X6_worthOf (f : Nat)  (x0 : Nat) (x1 : Int32) (h : Hp) : Option (Int32 × Hp) :=
  (q_gi h x0 6 10).bind fun v1_ =>
  (q_gr h x0 6 48).bind fun a2_ =>
  (q_ai h a2_ 9 x1).bind fun v3_ =>
  (q_gi h x0 6 45).bind fun v4_ =>
  q_nz v4_ (
  (q_gi h x0 6 9).bind fun v5_ =>
  some ((((v1_ * v3_) / v4_) - v5_), h))
set_option maxRecDepth 20000 in
theorem t_X6_worthOf_0 {X : Cx} (o : Ok X RX6 cX6_worthOf 2 0 0 0 0 (some .int)) (f : Nat)  (x0 : Nat) (x1 : Int32) (h : Hp) : Sim X (z_Zi X 0 0) 0 0 0 [(0, rf (xG X) x0), (1, .int x1)] [] h (f_X6_worthOf f x0 x1 h) := by
  unfold f_X6_worthOf
  refine s_aload_n o 0 rfl dX6_worthOf_0 (q := 1) rfl ?_
  refine s_gi o kf_X6_29 dX6_worthOf_1 (q := 4) rfl (fun v1_ => ?_)
  refine s_aload_n o 0 rfl dX6_worthOf_4 (q := 5) rfl ?_
  refine s_gr o kf_X6_87 dX6_worthOf_5 (q := 8) rfl (fun a2_ => ?_)
  refine s_iload_n o 1 rfl dX6_worthOf_8 (q := 9) rfl ?_
  refine s_iald o dX6_worthOf_9 (q := 10) rfl (fun v3_ => ?_)
  refine s_imul o dX6_worthOf_10 (q := 11) rfl ?_
  refine s_aload_n o 0 rfl dX6_worthOf_11 (q := 12) rfl ?_
  refine s_gi o kf_X6_338 dX6_worthOf_12 (q := 15) rfl (fun v4_ => ?_)
  refine s_idiv o dX6_worthOf_15 (q := 16) rfl ?_
  refine s_aload_n o 0 rfl dX6_worthOf_16 (q := 17) rfl ?_
  refine s_gi o kf_X6_25 dX6_worthOf_17 (q := 20) rfl (fun v5_ => ?_)
  refine s_isub o dX6_worthOf_20 (q := 21) rfl ?_
  exact s_iret o dX6_worthOf_21
theorem c_X6_worthOf (G : Gx) (f : Nat) (x0 : Nat) (x1 : Int32) (h : Hp) : z_M z_qi G yX6_worthOf cX6_worthOf 2 (some .int) 0 0 0 0 [rf G x0, .int x1] h (f_X6_worthOf f x0 x1 h) :=
  z_met (by decide +kernel) (Nat.le_of_ble_eq_true rfl) (fun X hG hn o hnm => by
    subst hG
    show Sim X (z_Zi X 0 0) 0 0 0 [(0, rf (xG X) x0), (1, .int x1)] [] h _
    exact s_sub [0, 1] rfl (t_X6_worthOf_0 o f x0 x1 h))
/-! SixMapsModel.bandDay(I)V -/
def b_X6_bandDay_58 (f : Nat)  (x0 : Nat) (x1 : Int32) (y0 : Int32) (y1 : Int32) (h : Hp) : Option (Hp) :=
  lt (y0 + y1) fun v1_ =>
  (q_gi h x0 6 0).bind fun v2_ =>
  q_on h x0 6 (
  bi (f_X6_draw f x0 v2_ h) fun v5_ h4_ =>
  (q_gi h4_ x0 6 0).bind fun v6_ =>
  q_on h4_ x0 6 (
  bi (f_X6_draw f x0 v6_ h4_) fun v9_ h8_ =>
  (q_gr h8_ x0 6 11).bind fun a10_ =>
  (q_ai h8_ a10_ 9 (((6 : Int32) * v1_) + x1)).bind fun v11_ =>
  (q_as h8_ a10_ 9 (((6 : Int32) * v1_) + x1) (v11_ ||| ((1 : Int32) <<< (v5_ &&& 31)))).bind fun h12_ =>
  (q_gr h12_ x0 6 11).bind fun a13_ =>
  (q_ai h12_ a13_ 9 (((6 : Int32) * x1) + v1_)).bind fun v14_ =>
  (q_as h12_ a13_ 9 (((6 : Int32) * x1) + v1_) (v14_ ||| ((1 : Int32) <<< (v9_ &&& 31)))).bind fun h15_ =>
  some h15_))
def b_X6_bandDay_41 (f : Nat)  (x0 : Nat) (x1 : Int32) (h : Hp) : Option (Hp) :=
  q_on h x0 6 (
  bi (f_X6_draw f x0 (5 : Int32) h) fun v3_ h2_ =>
  if v3_ < x1 then
  (b_X6_bandDay_58 f x0 x1 v3_ (0 : Int32) h2_)
  else
  (b_X6_bandDay_58 f x0 x1 v3_ (1 : Int32) h2_))
def f_X6_bandDay (f : Nat)  (x0 : Nat) (x1 : Int32) (h : Hp) : Option (Hp) :=
  q_on h x0 6 (
  (f_X6_findPlaces f x0 x1 h).bind fun h2_ =>
  q_on h2_ x0 6 (
  bi (f_X6_bestPlace f x0 h2_) fun v5_ h4_ =>
  if v5_ < 0 then
  (b_X6_bandDay_41 f x0 x1 h4_)
  else
  (q_on h4_ x0 6 (
  bi (f_X6_worthOf f x0 v5_ h4_) fun v8_ h7_ =>
  if v8_ ≤ 0 then
  (b_X6_bandDay_41 f x0 x1 h7_)
  else
  ((q_gr h7_ x0 6 46).bind fun a9_ =>
  (q_ai h7_ a9_ 9 v5_).bind fun v10_ =>
  (q_gr h7_ x0 6 47).bind fun a11_ =>
  (q_ai h7_ a11_ 9 v5_).bind fun v12_ =>
  q_on h7_ x0 6 (
  bi (f_X6_digNow f x0 x1 v10_ v12_ h7_) fun v15_ h14_ =>
  some h14_))))))
set_option maxRecDepth 20000 in
theorem t_X6_bandDay_58 {X : Cx} (o : Ok X RX6 cX6_bandDay 6 4 98 0 0 none) (f : Nat)  (x0 : Nat) (x1 : Int32) (y0 : Int32) (y1 : Int32) (h : Hp) : Sim X (z_Zv X 0 0) 0 0 58 [(0, rf (xG X) x0), (1, .int x1)] [.int y1, .int y0] h (b_X6_bandDay_58 f x0 x1 y0 y1 h) := by
  unfold b_X6_bandDay_58
  refine s_iadd o dX6_bandDay_58 (q := 59) rfl ?_
  refine s_let (fun v1_ => ?_)
  refine s_istore_n o [1, 2, 0] (lv' := [(0, rf (xG X) x0), (1, .int x1), (3, .int v1_)]) rfl dX6_bandDay_59 (by decide) (q := 60) rfl ?_
  refine s_aload_n o 0 rfl dX6_bandDay_60 (q := 61) rfl ?_
  refine s_aload_n o 0 rfl dX6_bandDay_61 (q := 62) rfl ?_
  refine s_gi o kf_X6_111 dX6_bandDay_62 (q := 65) rfl (fun v2_ => ?_)
  refine s_on (fun hk3_ => ?_)
  refine s_bi (fun r0 hr0 => runV o hk3_ cv_X6_372 (c_X6_draw (xG X) f x0 v2_ h (xl X) r0 hr0) ⟨Nat.le_of_ble_eq_true rfl, Nat.le_of_ble_eq_true rfl⟩ rfl rfl (Nat.le_of_ble_eq_true rfl) dX6_bandDay_65 ⟨Nat.le_of_ble_eq_true rfl, Nat.le_of_ble_eq_true rfl⟩) (q := 68) rfl (cs' := 0) rfl (sl' := 0) rfl (fun v5_ h4_ => ?_)
  refine s_istore o [1, 2, 3, 0] (lv' := [(0, rf (xG X) x0), (1, .int x1), (3, .int v1_), (4, .int v5_)]) rfl dX6_bandDay_68 (by decide) (q := 70) rfl ?_
  refine s_aload_n o 0 rfl dX6_bandDay_70 (q := 71) rfl ?_
  refine s_aload_n o 0 rfl dX6_bandDay_71 (q := 72) rfl ?_
  refine s_gi o kf_X6_111 dX6_bandDay_72 (q := 75) rfl (fun v6_ => ?_)
  refine s_on (fun hk7_ => ?_)
  refine s_bi (fun r0 hr0 => runV o hk7_ cv_X6_372 (c_X6_draw (xG X) f x0 v6_ h4_ (xl X) r0 hr0) ⟨Nat.le_of_ble_eq_true rfl, Nat.le_of_ble_eq_true rfl⟩ rfl rfl (Nat.le_of_ble_eq_true rfl) dX6_bandDay_75 ⟨Nat.le_of_ble_eq_true rfl, Nat.le_of_ble_eq_true rfl⟩) (q := 78) rfl (cs' := 0) rfl (sl' := 0) rfl (fun v9_ h8_ => ?_)
  refine s_istore o [1, 2, 3, 4, 0] (lv' := [(0, rf (xG X) x0), (1, .int x1), (3, .int v1_), (4, .int v5_), (5, .int v9_)]) rfl dX6_bandDay_78 (by decide) (q := 80) rfl ?_
  refine s_aload_n o 0 rfl dX6_bandDay_80 (q := 81) rfl ?_
  refine s_gr o kf_X6_32 dX6_bandDay_81 (q := 84) rfl (fun a10_ => ?_)
  refine s_bipush o dX6_bandDay_84 (v := (6 : Int32)) (by decide) (q := 86) rfl ?_
  refine s_iload_n o 2 rfl dX6_bandDay_86 (q := 87) rfl ?_
  refine s_imul o dX6_bandDay_87 (q := 88) rfl ?_
  refine s_iload_n o 1 rfl dX6_bandDay_88 (q := 89) rfl ?_
  refine s_iadd o dX6_bandDay_89 (q := 90) rfl ?_
  refine s_dup2 o rfl rfl dX6_bandDay_90 (q := 91) rfl ?_
  refine s_iald o dX6_bandDay_91 (q := 92) rfl (fun v11_ => ?_)
  refine s_iconst o dX6_bandDay_92 (v := (1 : Int32)) (by decide) (q := 93) rfl ?_
  refine s_iload o 3 rfl dX6_bandDay_93 (q := 95) rfl ?_
  refine s_ishl o dX6_bandDay_95 (q := 96) rfl ?_
  refine s_ior o dX6_bandDay_96 (q := 97) rfl ?_
  refine s_iast o dX6_bandDay_97 (q := 98) rfl (fun h12_ => ?_)
  refine s_aload_n o 0 rfl dX6_bandDay_98 (q := 99) rfl ?_
  refine s_gr o kf_X6_32 dX6_bandDay_99 (q := 102) rfl (fun a13_ => ?_)
  refine s_bipush o dX6_bandDay_102 (v := (6 : Int32)) (by decide) (q := 104) rfl ?_
  refine s_iload_n o 1 rfl dX6_bandDay_104 (q := 105) rfl ?_
  refine s_imul o dX6_bandDay_105 (q := 106) rfl ?_
  refine s_iload_n o 2 rfl dX6_bandDay_106 (q := 107) rfl ?_
  refine s_iadd o dX6_bandDay_107 (q := 108) rfl ?_
  refine s_dup2 o rfl rfl dX6_bandDay_108 (q := 109) rfl ?_
  refine s_iald o dX6_bandDay_109 (q := 110) rfl (fun v14_ => ?_)
  refine s_iconst o dX6_bandDay_110 (v := (1 : Int32)) (by decide) (q := 111) rfl ?_
  refine s_iload o 4 rfl dX6_bandDay_111 (q := 113) rfl ?_
  refine s_ishl o dX6_bandDay_113 (q := 114) rfl ?_
  refine s_ior o dX6_bandDay_114 (q := 115) rfl ?_
  refine s_iast o dX6_bandDay_115 (q := 116) rfl (fun h15_ => ?_)
  exact s_vret o dX6_bandDay_116
set_option maxRecDepth 20000 in
theorem t_X6_bandDay_41 {X : Cx} (o : Ok X RX6 cX6_bandDay 6 4 98 0 0 none) (f : Nat)  (x0 : Nat) (x1 : Int32) (h : Hp) : Sim X (z_Zv X 0 0) 0 0 41 [(0, rf (xG X) x0), (1, .int x1)] [] h (b_X6_bandDay_41 f x0 x1 h) := by
  unfold b_X6_bandDay_41
  refine s_aload_n o 0 rfl dX6_bandDay_41 (q := 42) rfl ?_
  refine s_iconst o dX6_bandDay_42 (v := (5 : Int32)) (by decide) (q := 43) rfl ?_
  refine s_on (fun hk1_ => ?_)
  refine s_bi (fun r0 hr0 => runV o hk1_ cv_X6_372 (c_X6_draw (xG X) f x0 (5 : Int32) h (xl X) r0 hr0) ⟨Nat.le_of_ble_eq_true rfl, Nat.le_of_ble_eq_true rfl⟩ rfl rfl (Nat.le_of_ble_eq_true rfl) dX6_bandDay_43 ⟨Nat.le_of_ble_eq_true rfl, Nat.le_of_ble_eq_true rfl⟩) (q := 46) rfl (cs' := 0) rfl (sl' := 0) rfl (fun v3_ h2_ => ?_)
  refine s_istore_n o [1, 2, 0] (lv' := [(0, rf (xG X) x0), (1, .int x1), (3, .int v3_)]) rfl dX6_bandDay_46 (by decide) (q := 47) rfl ?_
  refine s_iload_n o 2 rfl dX6_bandDay_47 (q := 48) rfl ?_
  refine s_iload_n o 2 rfl dX6_bandDay_48 (q := 49) rfl ?_
  refine s_iload_n o 1 rfl dX6_bandDay_49 (q := 50) rfl ?_
  refine s_ic_lt o (tgt := 57) dX6_bandDay_50 (by decide) (q := 53) rfl ?_ ?_
  · refine s_iconst o dX6_bandDay_57 (v := (0 : Int32)) (by decide) (q := 58) rfl ?_
    exact s_sub [0, 1] rfl (t_X6_bandDay_58 o f x0 x1 v3_ (0 : Int32) h2_)
  · refine s_iconst o dX6_bandDay_53 (v := (1 : Int32)) (by decide) (q := 54) rfl ?_
    refine s_goto o (tgt := 58) dX6_bandDay_54 (by decide) ?_
    exact s_sub [0, 1] rfl (t_X6_bandDay_58 o f x0 x1 v3_ (1 : Int32) h2_)
set_option maxRecDepth 20000 in
theorem t_X6_bandDay_0 {X : Cx} (o : Ok X RX6 cX6_bandDay 6 4 98 0 0 none) (f : Nat)  (x0 : Nat) (x1 : Int32) (h : Hp) : Sim X (z_Zv X 0 0) 0 0 0 [(0, rf (xG X) x0), (1, .int x1)] [] h (f_X6_bandDay f x0 x1 h) := by
  unfold f_X6_bandDay
  refine s_aload_n o 0 rfl dX6_bandDay_0 (q := 1) rfl ?_
  refine s_iload_n o 1 rfl dX6_bandDay_1 (q := 2) rfl ?_
  refine s_on (fun hk1_ => ?_)
  refine s_callv (fun r0 hr0 => runV o hk1_ cv_X6_344 (c_X6_findPlaces (xG X) f x0 x1 h (xl X) r0 hr0) ⟨Nat.le_of_ble_eq_true rfl, Nat.le_of_ble_eq_true rfl⟩ rfl rfl (Nat.le_of_ble_eq_true rfl) dX6_bandDay_2 ⟨Nat.le_of_ble_eq_true rfl, Nat.le_of_ble_eq_true rfl⟩) (q := 5) rfl (cs' := 0) rfl (sl' := 0) rfl (fun h2_ => ?_)
  refine s_aload_n o 0 rfl dX6_bandDay_5 (q := 6) rfl ?_
  refine s_on (fun hk3_ => ?_)
  refine s_bi (fun r0 hr0 => runV o hk3_ cv_X6_348 (c_X6_bestPlace (xG X) f x0 h2_ (xl X) r0 hr0) ⟨Nat.le_of_ble_eq_true rfl, Nat.le_of_ble_eq_true rfl⟩ rfl rfl (Nat.le_of_ble_eq_true rfl) dX6_bandDay_6 ⟨Nat.le_of_ble_eq_true rfl, Nat.le_of_ble_eq_true rfl⟩) (q := 9) rfl (cs' := 0) rfl (sl' := 0) rfl (fun v5_ h4_ => ?_)
  refine s_istore_n o [1, 2, 0] (lv' := [(0, rf (xG X) x0), (1, .int x1), (2, .int v5_)]) rfl dX6_bandDay_9 (by decide) (q := 10) rfl ?_
  refine s_iload_n o 2 rfl dX6_bandDay_10 (q := 11) rfl ?_
  refine s_if_lt o (tgt := 41) dX6_bandDay_11 (by decide) (q := 14) rfl ?_ ?_
  · exact s_sub [0, 1] rfl (t_X6_bandDay_41 o f x0 x1 h4_)
  · refine s_aload_n o 0 rfl dX6_bandDay_14 (q := 15) rfl ?_
    refine s_iload_n o 2 rfl dX6_bandDay_15 (q := 16) rfl ?_
    refine s_on (fun hk6_ => ?_)
    refine s_bi (fun r0 hr0 => runV o hk6_ cv_X6_351 (c_X6_worthOf (xG X) f x0 v5_ h4_ (xl X) r0 hr0) ⟨Nat.le_of_ble_eq_true rfl, Nat.le_of_ble_eq_true rfl⟩ rfl rfl (Nat.le_of_ble_eq_true rfl) dX6_bandDay_16 ⟨Nat.le_of_ble_eq_true rfl, Nat.le_of_ble_eq_true rfl⟩) (q := 19) rfl (cs' := 0) rfl (sl' := 0) rfl (fun v8_ h7_ => ?_)
    refine s_if_le o (tgt := 41) dX6_bandDay_19 (by decide) (q := 22) rfl ?_ ?_
    · exact s_sub [0, 1] rfl (t_X6_bandDay_41 o f x0 x1 h7_)
    · refine s_aload_n o 0 rfl dX6_bandDay_22 (q := 23) rfl ?_
      refine s_iload_n o 1 rfl dX6_bandDay_23 (q := 24) rfl ?_
      refine s_aload_n o 0 rfl dX6_bandDay_24 (q := 25) rfl ?_
      refine s_gr o kf_X6_81 dX6_bandDay_25 (q := 28) rfl (fun a9_ => ?_)
      refine s_iload_n o 2 rfl dX6_bandDay_28 (q := 29) rfl ?_
      refine s_iald o dX6_bandDay_29 (q := 30) rfl (fun v10_ => ?_)
      refine s_aload_n o 0 rfl dX6_bandDay_30 (q := 31) rfl ?_
      refine s_gr o kf_X6_84 dX6_bandDay_31 (q := 34) rfl (fun a11_ => ?_)
      refine s_iload_n o 2 rfl dX6_bandDay_34 (q := 35) rfl ?_
      refine s_iald o dX6_bandDay_35 (q := 36) rfl (fun v12_ => ?_)
      refine s_on (fun hk13_ => ?_)
      refine s_bi (fun r0 hr0 => runV o hk13_ cv_X6_326 (c_X6_digNow (xG X) f x0 x1 v10_ v12_ h7_ (xl X) r0 hr0) ⟨Nat.le_of_ble_eq_true rfl, Nat.le_of_ble_eq_true rfl⟩ rfl rfl (Nat.le_of_ble_eq_true rfl) dX6_bandDay_36 ⟨Nat.le_of_ble_eq_true rfl, Nat.le_of_ble_eq_true rfl⟩) (q := 39) rfl (cs' := 0) rfl (sl' := 0) rfl (fun v15_ h14_ => ?_)
      refine s_istore_n o [1, 2, 3, 0] (lv' := [(0, rf (xG X) x0), (1, .int x1), (2, .int v5_), (3, .int v15_)]) rfl dX6_bandDay_39 (by decide) (q := 40) rfl ?_
      exact s_vret o dX6_bandDay_40
theorem c_X6_bandDay (G : Gx) (f : Nat) (x0 : Nat) (x1 : Int32) (h : Hp) : z_M z_qv G yX6_bandDay cX6_bandDay 6 none 4 98 0 0 [rf G x0, .int x1] h (f_X6_bandDay f x0 x1 h) :=
  z_met (by decide +kernel) (Nat.le_of_ble_eq_true rfl) (fun X hG hn o hnm => by
    subst hG
    show Sim X (z_Zv X 0 0) 0 0 0 [(0, rf (xG X) x0), (1, .int x1)] [] h _
    exact s_sub [0, 1] rfl (t_X6_bandDay_0 o f x0 x1 h))
/-! SixMapsModel.bare()V -/
def b_X6_bare_50 (f : Nat) (k2 : Nat → Int32 → Hp → Option (Hp)) (k17 : Nat → Int32 → Int32 → Hp → Option (Hp)) (x0 : Nat) (x1 : Int32) (x2 : Int32) (y0 : Nat) (y1 : Int32) (y2 : Int32) (h : Hp) : Option (Hp) :=
  (q_as h y0 9 y1 y2).bind fun h1_ =>
  lt (x2 + (1 : Int32)) fun v2_ =>
  k17 x0 x1 v2_ h1_
def b_X6_bare_17 (f : Nat) (k2 : Nat → Int32 → Hp → Option (Hp)) (k17 : Nat → Int32 → Int32 → Hp → Option (Hp)) (x0 : Nat) (x1 : Int32) (x2 : Int32) (h : Hp) : Option (Hp) :=
  if (6 : Int32) ≤ x2 then
  (lt (x1 + (1 : Int32)) fun v1_ =>
  k2 x0 v1_ h)
  else
  ((q_gr h x0 6 11).bind fun a2_ =>
  if ¬ x2 = x1 then
  (b_X6_bare_50 f k2 k17 x0 x1 x2 a2_ (((6 : Int32) * x1) + x2) (0 : Int32) h)
  else
  ((q_gi h x0 6 0).bind fun v3_ =>
  b_X6_bare_50 f k2 k17 x0 x1 x2 a2_ (((6 : Int32) * x1) + x2) (((1 : Int32) <<< (v3_ &&& 31)) - (1 : Int32)) h))
def l_X6_bare_17 (f : Nat) (k2 : Nat → Int32 → Hp → Option (Hp)) : Nat → Nat → Int32 → Int32 → Hp → Option (Hp)
  | 0, _, _, _, _ => none
  | n + 1, x0, x1, x2, h => b_X6_bare_17 f k2 (l_X6_bare_17 f k2 n) x0 x1 x2 h
def b_X6_bare_2 (f : Nat) (k2 : Nat → Int32 → Hp → Option (Hp)) (x0 : Nat) (x1 : Int32) (h : Hp) : Option (Hp) :=
  if (6 : Int32) ≤ x1 then
  ((q_pi h x0 6 13 (0 : Int32)).bind fun h1_ =>
  (q_pi h1_ x0 6 16 (-1 : Int32)).bind fun h2_ =>
  some h2_)
  else
  ((q_gr h x0 6 12).bind fun a3_ =>
  (q_as h a3_ 9 x1 (0 : Int32)).bind fun h4_ =>
  l_X6_bare_17 f k2 f x0 x1 (0 : Int32) h4_)
def l_X6_bare_2 (f : Nat)  : Nat → Nat → Int32 → Hp → Option (Hp)
  | 0, _, _, _ => none
  | n + 1, x0, x1, h => b_X6_bare_2 f  (l_X6_bare_2 f  n) x0 x1 h
def f_X6_bare (f : Nat)  (x0 : Nat) (h : Hp) : Option (Hp) :=
  l_X6_bare_2 f f x0 (0 : Int32) h
set_option maxRecDepth 20000 in
theorem t_X6_bare_50 {X : Cx} (o : Ok X RX6 cX6_bare 3 0 0 0 0 none) (f : Nat) {k2 : Nat → Int32 → Hp → Option (Hp)} (hk2 : ∀ (x0 : Nat) (x1 : Int32) (h : Hp), Sim X (z_Zv X 0 0) 0 0 2 [(0, rf (xG X) x0), (1, .int x1)] [] h (k2 x0 x1 h)) {k17 : Nat → Int32 → Int32 → Hp → Option (Hp)} (hk17 : ∀ (x0 : Nat) (x1 : Int32) (x2 : Int32) (h : Hp), Sim X (z_Zv X 0 0) 0 0 17 [(0, rf (xG X) x0), (1, .int x1), (2, .int x2)] [] h (k17 x0 x1 x2 h)) (x0 : Nat) (x1 : Int32) (x2 : Int32) (y0 : Nat) (y1 : Int32) (y2 : Int32) (h : Hp) : Sim X (z_Zv X 0 0) 0 0 50 [(0, rf (xG X) x0), (1, .int x1), (2, .int x2)] [.int y2, .int y1, rf (xG X) y0] h (b_X6_bare_50 f k2 k17 x0 x1 x2 y0 y1 y2 h) := by
  unfold b_X6_bare_50
  refine s_iast o dX6_bare_50 (q := 51) rfl (fun h1_ => ?_)
  refine s_iinc o 2 rfl (v := (1 : Int32)) (by decide) [1, 2, 0] (lv' := fun v2_ => [(0, rf (xG X) x0), (1, .int x1), (2, .int v2_)]) (fun _ => rfl) dX6_bare_51 (by decide) (q := 54) rfl (fun v2_ => ?_)
  refine s_goto o (tgt := 17) dX6_bare_54 (by decide) ?_
  exact s_sub [0, 1, 2] rfl (hk17 x0 x1 v2_ h1_)
set_option maxRecDepth 20000 in
theorem t_X6_bare_17 {X : Cx} (o : Ok X RX6 cX6_bare 3 0 0 0 0 none) (f : Nat) {k2 : Nat → Int32 → Hp → Option (Hp)} (hk2 : ∀ (x0 : Nat) (x1 : Int32) (h : Hp), Sim X (z_Zv X 0 0) 0 0 2 [(0, rf (xG X) x0), (1, .int x1)] [] h (k2 x0 x1 h)) {k17 : Nat → Int32 → Int32 → Hp → Option (Hp)} (hk17 : ∀ (x0 : Nat) (x1 : Int32) (x2 : Int32) (h : Hp), Sim X (z_Zv X 0 0) 0 0 17 [(0, rf (xG X) x0), (1, .int x1), (2, .int x2)] [] h (k17 x0 x1 x2 h)) (x0 : Nat) (x1 : Int32) (x2 : Int32) (h : Hp) : Sim X (z_Zv X 0 0) 0 0 17 [(0, rf (xG X) x0), (1, .int x1), (2, .int x2)] [] h (b_X6_bare_17 f k2 k17 x0 x1 x2 h) := by
  unfold b_X6_bare_17
  refine s_iload_n o 2 rfl dX6_bare_17 (q := 18) rfl ?_
  refine s_bipush o dX6_bare_18 (v := (6 : Int32)) (by decide) (q := 20) rfl ?_
  refine s_ic_ge o (tgt := 57) dX6_bare_20 (by decide) (q := 23) rfl ?_ ?_
  · refine s_iinc o 1 rfl (v := (1 : Int32)) (by decide) [1, 0, 2] (lv' := fun v1_ => [(0, rf (xG X) x0), (1, .int v1_), (2, .int x2)]) (fun _ => rfl) dX6_bare_57 (by decide) (q := 60) rfl (fun v1_ => ?_)
    refine s_goto o (tgt := 2) dX6_bare_60 (by decide) ?_
    exact s_sub [0, 1] rfl (hk2 x0 v1_ h)
  · refine s_aload_n o 0 rfl dX6_bare_23 (q := 24) rfl ?_
    refine s_gr o kf_X6_32 dX6_bare_24 (q := 27) rfl (fun a2_ => ?_)
    refine s_bipush o dX6_bare_27 (v := (6 : Int32)) (by decide) (q := 29) rfl ?_
    refine s_iload_n o 1 rfl dX6_bare_29 (q := 30) rfl ?_
    refine s_imul o dX6_bare_30 (q := 31) rfl ?_
    refine s_iload_n o 2 rfl dX6_bare_31 (q := 32) rfl ?_
    refine s_iadd o dX6_bare_32 (q := 33) rfl ?_
    refine s_iload_n o 2 rfl dX6_bare_33 (q := 34) rfl ?_
    refine s_iload_n o 1 rfl dX6_bare_34 (q := 35) rfl ?_
    refine s_ic_ne o (tgt := 49) dX6_bare_35 (by decide) (q := 38) rfl ?_ ?_
    · refine s_iconst o dX6_bare_49 (v := (0 : Int32)) (by decide) (q := 50) rfl ?_
      exact s_sub [0, 1, 2] rfl (t_X6_bare_50 o f hk2 hk17 x0 x1 x2 a2_ (((6 : Int32) * x1) + x2) (0 : Int32) h)
    · refine s_iconst o dX6_bare_38 (v := (1 : Int32)) (by decide) (q := 39) rfl ?_
      refine s_aload_n o 0 rfl dX6_bare_39 (q := 40) rfl ?_
      refine s_gi o kf_X6_111 dX6_bare_40 (q := 43) rfl (fun v3_ => ?_)
      refine s_ishl o dX6_bare_43 (q := 44) rfl ?_
      refine s_iconst o dX6_bare_44 (v := (1 : Int32)) (by decide) (q := 45) rfl ?_
      refine s_isub o dX6_bare_45 (q := 46) rfl ?_
      refine s_goto o (tgt := 50) dX6_bare_46 (by decide) ?_
      exact s_sub [0, 1, 2] rfl (t_X6_bare_50 o f hk2 hk17 x0 x1 x2 a2_ (((6 : Int32) * x1) + x2) (((1 : Int32) <<< (v3_ &&& 31)) - (1 : Int32)) h)
theorem tl_X6_bare_17 {X : Cx} (o : Ok X RX6 cX6_bare 3 0 0 0 0 none) (f : Nat) {k2 : Nat → Int32 → Hp → Option (Hp)} (hk2 : ∀ (x0 : Nat) (x1 : Int32) (h : Hp), Sim X (z_Zv X 0 0) 0 0 2 [(0, rf (xG X) x0), (1, .int x1)] [] h (k2 x0 x1 h)) : ∀ (n : Nat) (x0 : Nat) (x1 : Int32) (x2 : Int32) (h : Hp), Sim X (z_Zv X 0 0) 0 0 17 [(0, rf (xG X) x0), (1, .int x1), (2, .int x2)] [] h (l_X6_bare_17 f k2 n x0 x1 x2 h) := by
  intro n
  induction n with
  | zero => intro x0 x1 x2 h; exact s_none
  | succ n ih => intro x0 x1 x2 h; exact t_X6_bare_17 o f hk2 ih x0 x1 x2 h
set_option maxRecDepth 20000 in
theorem t_X6_bare_2 {X : Cx} (o : Ok X RX6 cX6_bare 3 0 0 0 0 none) (f : Nat) {k2 : Nat → Int32 → Hp → Option (Hp)} (hk2 : ∀ (x0 : Nat) (x1 : Int32) (h : Hp), Sim X (z_Zv X 0 0) 0 0 2 [(0, rf (xG X) x0), (1, .int x1)] [] h (k2 x0 x1 h)) (x0 : Nat) (x1 : Int32) (h : Hp) : Sim X (z_Zv X 0 0) 0 0 2 [(0, rf (xG X) x0), (1, .int x1)] [] h (b_X6_bare_2 f k2 x0 x1 h) := by
  unfold b_X6_bare_2
  refine s_iload_n o 1 rfl dX6_bare_2 (q := 3) rfl ?_
  refine s_bipush o dX6_bare_3 (v := (6 : Int32)) (by decide) (q := 5) rfl ?_
  refine s_ic_ge o (tgt := 63) dX6_bare_5 (by decide) (q := 8) rfl ?_ ?_
  · refine s_aload_n o 0 rfl dX6_bare_63 (q := 64) rfl ?_
    refine s_iconst o dX6_bare_64 (v := (0 : Int32)) (by decide) (q := 65) rfl ?_
    refine s_pi o kf_X6_120 dX6_bare_65 (q := 68) rfl (fun h1_ => ?_)
    refine s_aload_n o 0 rfl dX6_bare_68 (q := 69) rfl ?_
    refine s_iconst o dX6_bare_69 (v := (-1 : Int32)) (by decide) (q := 70) rfl ?_
    refine s_pi o kf_X6_44 dX6_bare_70 (q := 73) rfl (fun h2_ => ?_)
    exact s_vret o dX6_bare_73
  · refine s_aload_n o 0 rfl dX6_bare_8 (q := 9) rfl ?_
    refine s_gr o kf_X6_35 dX6_bare_9 (q := 12) rfl (fun a3_ => ?_)
    refine s_iload_n o 1 rfl dX6_bare_12 (q := 13) rfl ?_
    refine s_iconst o dX6_bare_13 (v := (0 : Int32)) (by decide) (q := 14) rfl ?_
    refine s_iast o dX6_bare_14 (q := 15) rfl (fun h4_ => ?_)
    refine s_iconst o dX6_bare_15 (v := (0 : Int32)) (by decide) (q := 16) rfl ?_
    refine s_istore_n o [1, 2, 0] (lv' := [(0, rf (xG X) x0), (1, .int x1), (2, .int (0 : Int32))]) rfl dX6_bare_16 (by decide) (q := 17) rfl ?_
    exact s_sub [0, 1, 2] rfl (tl_X6_bare_17 o f hk2 f x0 x1 (0 : Int32) h4_)
theorem tl_X6_bare_2 {X : Cx} (o : Ok X RX6 cX6_bare 3 0 0 0 0 none) (f : Nat)  : ∀ (n : Nat) (x0 : Nat) (x1 : Int32) (h : Hp), Sim X (z_Zv X 0 0) 0 0 2 [(0, rf (xG X) x0), (1, .int x1)] [] h (l_X6_bare_2 f n x0 x1 h) := by
  intro n
  induction n with
  | zero => intro x0 x1 h; exact s_none
  | succ n ih => intro x0 x1 h; exact t_X6_bare_2 o f  ih x0 x1 h
set_option maxRecDepth 20000 in
theorem t_X6_bare_0 {X : Cx} (o : Ok X RX6 cX6_bare 3 0 0 0 0 none) (f : Nat)  (x0 : Nat) (h : Hp) : Sim X (z_Zv X 0 0) 0 0 0 [(0, rf (xG X) x0)] [] h (f_X6_bare f x0 h) := by
  unfold f_X6_bare
  refine s_iconst o dX6_bare_0 (v := (0 : Int32)) (by decide) (q := 1) rfl ?_
  refine s_istore_n o [1, 0] (lv' := [(0, rf (xG X) x0), (1, .int (0 : Int32))]) rfl dX6_bare_1 (by decide) (q := 2) rfl ?_
  exact s_sub [0, 1] rfl (tl_X6_bare_2 o f f x0 (0 : Int32) h)
theorem c_X6_bare (G : Gx) (f : Nat) (x0 : Nat) (h : Hp) : z_M z_qv G yX6_bare cX6_bare 3 none 0 0 0 0 [rf G x0] h (f_X6_bare f x0 h) :=
  z_met (by decide +kernel) (Nat.le_of_ble_eq_true rfl) (fun X hG hn o hnm => by
    subst hG
    show Sim X (z_Zv X 0 0) 0 0 0 [(0, rf (xG X) x0)] [] h _
    exact s_sub [0] rfl (t_X6_bare_0 o f x0 h))
/-! SixMapsModel.best(II)I -/
def b_X6_best_88 (f : Nat)  (y0 : Int32) (h : Hp) : Option (Int32 × Hp) :=
  some (y0, h)
def f_X6_best (f : Nat)  (x0 : Nat) (x1 : Int32) (x2 : Int32) (h : Hp) : Option (Int32 × Hp) :=
  bi (f_X6_isBand f x1 h) fun v2_ h1_ =>
  if ¬ v2_ = 0 then
  (bi (f_X6_in f x2.toInt64 (0 : Int64) (3 : Int64) h1_) fun v4_ h3_ =>
  if ¬ v4_ = 0 then
  (q_on h3_ x0 6 (
  (f_X6_findPlaces f x0 x1 h3_).bind fun h6_ =>
  q_on h6_ x0 6 (
  bi (f_X6_bestPlace f x0 h6_) fun v9_ h8_ =>
  if 0 ≤ v9_ then
  (if ¬ x2 = 0 then
  (if ¬ x2 = (1 : Int32) then
  (if ¬ x2 = (2 : Int32) then
  (q_on h8_ x0 6 (
  bi (f_X6_worthOf f x0 v9_ h8_) fun v12_ h11_ =>
  b_X6_best_88 f v12_ h11_))
  else
  ((q_gr h8_ x0 6 48).bind fun a13_ =>
  (q_ai h8_ a13_ 9 v9_).bind fun v14_ =>
  b_X6_best_88 f v14_ h8_))
  else
  ((q_gr h8_ x0 6 47).bind fun a15_ =>
  (q_ai h8_ a15_ 9 v9_).bind fun v16_ =>
  b_X6_best_88 f v16_ h8_))
  else
  ((q_gr h8_ x0 6 46).bind fun a17_ =>
  (q_ai h8_ a17_ 9 v9_).bind fun v18_ =>
  b_X6_best_88 f v18_ h8_))
  else
  (some ((-1 : Int32), h8_)))))
  else
  (some ((-1000002 : Int32), h3_)))
  else
  (some ((-1000001 : Int32), h1_))
set_option maxRecDepth 20000 in
theorem t_X6_best_88 {X : Cx} (o : Ok X RX6 cX6_best 4 4 98 0 0 (some .int)) (f : Nat)  (y0 : Int32) (h : Hp) : Sim X (z_Zi X 0 0) 0 0 88 [] [.int y0] h (b_X6_best_88 f y0 h) := by
  unfold b_X6_best_88
  exact s_iret o dX6_best_88
set_option maxRecDepth 20000 in
theorem t_X6_best_0 {X : Cx} (o : Ok X RX6 cX6_best 4 4 98 0 0 (some .int)) (f : Nat)  (x0 : Nat) (x1 : Int32) (x2 : Int32) (h : Hp) : Sim X (z_Zi X 0 0) 0 0 0 [(0, rf (xG X) x0), (1, .int x1), (2, .int x2)] [] h (f_X6_best f x0 x1 x2 h) := by
  unfold f_X6_best
  refine s_iload_n o 1 rfl dX6_best_0 (q := 1) rfl ?_
  refine s_bi (fun r0 hr0 => runS o cs_X6_267 (c_X6_isBand (xG X) f x1 h (xl X) r0 hr0) ⟨Nat.le_of_ble_eq_true rfl, Nat.le_of_ble_eq_true rfl⟩ rfl rfl (Nat.le_of_ble_eq_true rfl) dX6_best_1 ⟨Nat.le_of_ble_eq_true rfl, Nat.le_of_ble_eq_true rfl⟩) (q := 4) rfl (cs' := 0) rfl (sl' := 0) rfl (fun v2_ h1_ => ?_)
  refine s_if_ne o (tgt := 11) dX6_best_4 (by decide) (q := 7) rfl ?_ ?_
  · refine s_iload_n o 2 rfl dX6_best_11 (q := 12) rfl ?_
    refine s_i2l o dX6_best_12 (q := 13) rfl ?_
    refine s_lconst o dX6_best_13 (v := (0 : Int64)) (by decide) (q := 14) rfl ?_
    refine s_ldc2 o kl_X6_315 dX6_best_14 (q := 17) rfl ?_
    refine s_bi (fun r0 hr0 => runS o cs_X6_114 (c_X6_in (xG X) f x2.toInt64 (0 : Int64) (3 : Int64) h1_ (xl X) r0 hr0) ⟨Nat.le_of_ble_eq_true rfl, Nat.le_of_ble_eq_true rfl⟩ rfl rfl (Nat.le_of_ble_eq_true rfl) dX6_best_17 ⟨Nat.le_of_ble_eq_true rfl, Nat.le_of_ble_eq_true rfl⟩) (q := 20) rfl (cs' := 0) rfl (sl' := 0) rfl (fun v4_ h3_ => ?_)
    refine s_if_ne o (tgt := 26) dX6_best_20 (by decide) (q := 23) rfl ?_ ?_
    · refine s_aload_n o 0 rfl dX6_best_26 (q := 27) rfl ?_
      refine s_iload_n o 1 rfl dX6_best_27 (q := 28) rfl ?_
      refine s_on (fun hk5_ => ?_)
      refine s_callv (fun r0 hr0 => runV o hk5_ cv_X6_344 (c_X6_findPlaces (xG X) f x0 x1 h3_ (xl X) r0 hr0) ⟨Nat.le_of_ble_eq_true rfl, Nat.le_of_ble_eq_true rfl⟩ rfl rfl (Nat.le_of_ble_eq_true rfl) dX6_best_28 ⟨Nat.le_of_ble_eq_true rfl, Nat.le_of_ble_eq_true rfl⟩) (q := 31) rfl (cs' := 0) rfl (sl' := 0) rfl (fun h6_ => ?_)
      refine s_aload_n o 0 rfl dX6_best_31 (q := 32) rfl ?_
      refine s_on (fun hk7_ => ?_)
      refine s_bi (fun r0 hr0 => runV o hk7_ cv_X6_348 (c_X6_bestPlace (xG X) f x0 h6_ (xl X) r0 hr0) ⟨Nat.le_of_ble_eq_true rfl, Nat.le_of_ble_eq_true rfl⟩ rfl rfl (Nat.le_of_ble_eq_true rfl) dX6_best_32 ⟨Nat.le_of_ble_eq_true rfl, Nat.le_of_ble_eq_true rfl⟩) (q := 35) rfl (cs' := 0) rfl (sl' := 0) rfl (fun v9_ h8_ => ?_)
      refine s_istore_n o [1, 2, 3, 0] (lv' := [(0, rf (xG X) x0), (1, .int x1), (2, .int x2), (3, .int v9_)]) rfl dX6_best_35 (by decide) (q := 36) rfl ?_
      refine s_iload_n o 3 rfl dX6_best_36 (q := 37) rfl ?_
      refine s_if_ge o (tgt := 42) dX6_best_37 (by decide) (q := 40) rfl ?_ ?_
      · refine s_iload_n o 2 rfl dX6_best_42 (q := 43) rfl ?_
        refine s_if_ne o (tgt := 55) dX6_best_43 (by decide) (q := 46) rfl ?_ ?_
        · refine s_iload_n o 2 rfl dX6_best_55 (q := 56) rfl ?_
          refine s_iconst o dX6_best_56 (v := (1 : Int32)) (by decide) (q := 57) rfl ?_
          refine s_ic_ne o (tgt := 69) dX6_best_57 (by decide) (q := 60) rfl ?_ ?_
          · refine s_iload_n o 2 rfl dX6_best_69 (q := 70) rfl ?_
            refine s_iconst o dX6_best_70 (v := (2 : Int32)) (by decide) (q := 71) rfl ?_
            refine s_ic_ne o (tgt := 83) dX6_best_71 (by decide) (q := 74) rfl ?_ ?_
            · refine s_aload_n o 0 rfl dX6_best_83 (q := 84) rfl ?_
              refine s_iload_n o 3 rfl dX6_best_84 (q := 85) rfl ?_
              refine s_on (fun hk10_ => ?_)
              refine s_bi (fun r0 hr0 => runV o hk10_ cv_X6_351 (c_X6_worthOf (xG X) f x0 v9_ h8_ (xl X) r0 hr0) ⟨Nat.le_of_ble_eq_true rfl, Nat.le_of_ble_eq_true rfl⟩ rfl rfl (Nat.le_of_ble_eq_true rfl) dX6_best_85 ⟨Nat.le_of_ble_eq_true rfl, Nat.le_of_ble_eq_true rfl⟩) (q := 88) rfl (cs' := 0) rfl (sl' := 0) rfl (fun v12_ h11_ => ?_)
              exact s_sub [] rfl (t_X6_best_88 o f v12_ h11_)
            · refine s_aload_n o 0 rfl dX6_best_74 (q := 75) rfl ?_
              refine s_gr o kf_X6_87 dX6_best_75 (q := 78) rfl (fun a13_ => ?_)
              refine s_iload_n o 3 rfl dX6_best_78 (q := 79) rfl ?_
              refine s_iald o dX6_best_79 (q := 80) rfl (fun v14_ => ?_)
              refine s_goto o (tgt := 88) dX6_best_80 (by decide) ?_
              exact s_sub [] rfl (t_X6_best_88 o f v14_ h8_)
          · refine s_aload_n o 0 rfl dX6_best_60 (q := 61) rfl ?_
            refine s_gr o kf_X6_84 dX6_best_61 (q := 64) rfl (fun a15_ => ?_)
            refine s_iload_n o 3 rfl dX6_best_64 (q := 65) rfl ?_
            refine s_iald o dX6_best_65 (q := 66) rfl (fun v16_ => ?_)
            refine s_goto o (tgt := 88) dX6_best_66 (by decide) ?_
            exact s_sub [] rfl (t_X6_best_88 o f v16_ h8_)
        · refine s_aload_n o 0 rfl dX6_best_46 (q := 47) rfl ?_
          refine s_gr o kf_X6_81 dX6_best_47 (q := 50) rfl (fun a17_ => ?_)
          refine s_iload_n o 3 rfl dX6_best_50 (q := 51) rfl ?_
          refine s_iald o dX6_best_51 (q := 52) rfl (fun v18_ => ?_)
          refine s_goto o (tgt := 88) dX6_best_52 (by decide) ?_
          exact s_sub [] rfl (t_X6_best_88 o f v18_ h8_)
      · refine s_iconst o dX6_best_40 (v := (-1 : Int32)) (by decide) (q := 41) rfl ?_
        exact s_iret o dX6_best_41
    · refine s_ldc o kc_X6_125 dX6_best_23 (q := 25) rfl ?_
      exact s_iret o dX6_best_25
  · refine s_ldcw o kc_X6_266 dX6_best_7 (q := 10) rfl ?_
    exact s_iret o dX6_best_10
theorem c_X6_best (G : Gx) (f : Nat) (x0 : Nat) (x1 : Int32) (x2 : Int32) (h : Hp) : z_M z_qi G yX6_best cX6_best 4 (some .int) 4 98 0 0 [rf G x0, .int x1, .int x2] h (f_X6_best f x0 x1 x2 h) :=
  z_met (by decide +kernel) (Nat.le_of_ble_eq_true rfl) (fun X hG hn o hnm => by
    subst hG
    show Sim X (z_Zi X 0 0) 0 0 0 [(0, rf (xG X) x0), (1, .int x1), (2, .int x2)] [] h _
    exact s_sub [0, 1, 2] rfl (t_X6_best_0 o f x0 x1 x2 h))
/-! SixMapsModel.mayMany(I)I -/
def b_X6_mayMany_36 (f : Nat) (k4 : Nat → Int32 → Int32 → Int32 → Hp → Option (Int32 × Hp)) (x0 : Nat) (x1 : Int32) (x3 : Int32) (y0 : Int32) (y1 : Int32) (h : Hp) : Option (Int32 × Hp) :=
  lt (y0 + y1) fun v1_ =>
  lt (x3 + (1 : Int32)) fun v2_ =>
  k4 x0 x1 v1_ v2_ h
def b_X6_mayMany_35 (f : Nat) (k4 : Nat → Int32 → Int32 → Int32 → Hp → Option (Int32 × Hp)) (x0 : Nat) (x1 : Int32) (x3 : Int32) (y0 : Int32) (h : Hp) : Option (Int32 × Hp) :=
  b_X6_mayMany_36 f k4 x0 x1 x3 y0 (0 : Int32) h
def b_X6_mayMany_4 (f : Nat) (k4 : Nat → Int32 → Int32 → Int32 → Hp → Option (Int32 × Hp)) (x0 : Nat) (x1 : Int32) (x2 : Int32) (x3 : Int32) (h : Hp) : Option (Int32 × Hp) :=
  if (64 : Int32) ≤ x3 then
  (some (x2, h))
  else
  (bi (f_X6_bits f x3 h) fun v2_ h1_ =>
  (q_gi h1_ x0 6 5).bind fun v3_ =>
  if ¬ v2_ = v3_ then
  (b_X6_mayMany_35 f k4 x0 x1 x3 x2 h1_)
  else
  (q_on h1_ x0 6 (
  bi (f_X6_mayLie f x0 x1 x3 h1_) fun v6_ h5_ =>
  if v6_ = 0 then
  (b_X6_mayMany_35 f k4 x0 x1 x3 x2 h5_)
  else
  (b_X6_mayMany_36 f k4 x0 x1 x3 x2 (1 : Int32) h5_))))
def l_X6_mayMany_4 (f : Nat)  : Nat → Nat → Int32 → Int32 → Int32 → Hp → Option (Int32 × Hp)
  | 0, _, _, _, _, _ => none
  | n + 1, x0, x1, x2, x3, h => b_X6_mayMany_4 f  (l_X6_mayMany_4 f  n) x0 x1 x2 x3 h
def f_X6_mayMany (f : Nat)  (x0 : Nat) (x1 : Int32) (h : Hp) : Option (Int32 × Hp) :=
  l_X6_mayMany_4 f f x0 x1 (0 : Int32) (0 : Int32) h
set_option maxRecDepth 20000 in
theorem t_X6_mayMany_36 {X : Cx} (o : Ok X RX6 cX6_mayMany 4 3 76 0 0 (some .int)) (f : Nat) {k4 : Nat → Int32 → Int32 → Int32 → Hp → Option (Int32 × Hp)} (hk4 : ∀ (x0 : Nat) (x1 : Int32) (x2 : Int32) (x3 : Int32) (h : Hp), Sim X (z_Zi X 0 0) 0 0 4 [(0, rf (xG X) x0), (1, .int x1), (2, .int x2), (3, .int x3)] [] h (k4 x0 x1 x2 x3 h)) (x0 : Nat) (x1 : Int32) (x3 : Int32) (y0 : Int32) (y1 : Int32) (h : Hp) : Sim X (z_Zi X 0 0) 0 0 36 [(0, rf (xG X) x0), (1, .int x1), (3, .int x3)] [.int y1, .int y0] h (b_X6_mayMany_36 f k4 x0 x1 x3 y0 y1 h) := by
  unfold b_X6_mayMany_36
  refine s_iadd o dX6_mayMany_36 (q := 37) rfl ?_
  refine s_let (fun v1_ => ?_)
  refine s_istore_n o [1, 2, 0, 3] (lv' := [(0, rf (xG X) x0), (1, .int x1), (2, .int v1_), (3, .int x3)]) rfl dX6_mayMany_37 (by decide) (q := 38) rfl ?_
  refine s_iinc o 3 rfl (v := (1 : Int32)) (by decide) [1, 2, 3, 0] (lv' := fun v2_ => [(0, rf (xG X) x0), (1, .int x1), (2, .int v1_), (3, .int v2_)]) (fun _ => rfl) dX6_mayMany_38 (by decide) (q := 41) rfl (fun v2_ => ?_)
  refine s_goto o (tgt := 4) dX6_mayMany_41 (by decide) ?_
  exact s_sub [0, 1, 2, 3] rfl (hk4 x0 x1 v1_ v2_ h)
set_option maxRecDepth 20000 in
theorem t_X6_mayMany_35 {X : Cx} (o : Ok X RX6 cX6_mayMany 4 3 76 0 0 (some .int)) (f : Nat) {k4 : Nat → Int32 → Int32 → Int32 → Hp → Option (Int32 × Hp)} (hk4 : ∀ (x0 : Nat) (x1 : Int32) (x2 : Int32) (x3 : Int32) (h : Hp), Sim X (z_Zi X 0 0) 0 0 4 [(0, rf (xG X) x0), (1, .int x1), (2, .int x2), (3, .int x3)] [] h (k4 x0 x1 x2 x3 h)) (x0 : Nat) (x1 : Int32) (x3 : Int32) (y0 : Int32) (h : Hp) : Sim X (z_Zi X 0 0) 0 0 35 [(0, rf (xG X) x0), (1, .int x1), (3, .int x3)] [.int y0] h (b_X6_mayMany_35 f k4 x0 x1 x3 y0 h) := by
  unfold b_X6_mayMany_35
  refine s_iconst o dX6_mayMany_35 (v := (0 : Int32)) (by decide) (q := 36) rfl ?_
  exact s_sub [0, 1, 2] rfl (t_X6_mayMany_36 o f hk4 x0 x1 x3 y0 (0 : Int32) h)
set_option maxRecDepth 20000 in
theorem t_X6_mayMany_4 {X : Cx} (o : Ok X RX6 cX6_mayMany 4 3 76 0 0 (some .int)) (f : Nat) {k4 : Nat → Int32 → Int32 → Int32 → Hp → Option (Int32 × Hp)} (hk4 : ∀ (x0 : Nat) (x1 : Int32) (x2 : Int32) (x3 : Int32) (h : Hp), Sim X (z_Zi X 0 0) 0 0 4 [(0, rf (xG X) x0), (1, .int x1), (2, .int x2), (3, .int x3)] [] h (k4 x0 x1 x2 x3 h)) (x0 : Nat) (x1 : Int32) (x2 : Int32) (x3 : Int32) (h : Hp) : Sim X (z_Zi X 0 0) 0 0 4 [(0, rf (xG X) x0), (1, .int x1), (2, .int x2), (3, .int x3)] [] h (b_X6_mayMany_4 f k4 x0 x1 x2 x3 h) := by
  unfold b_X6_mayMany_4
  refine s_iload_n o 3 rfl dX6_mayMany_4 (q := 5) rfl ?_
  refine s_bipush o dX6_mayMany_5 (v := (64 : Int32)) (by decide) (q := 7) rfl ?_
  refine s_ic_ge o (tgt := 44) dX6_mayMany_7 (by decide) (q := 10) rfl ?_ ?_
  · refine s_iload_n o 2 rfl dX6_mayMany_44 (q := 45) rfl ?_
    exact s_iret o dX6_mayMany_45
  · refine s_iload_n o 2 rfl dX6_mayMany_10 (q := 11) rfl ?_
    refine s_iload_n o 3 rfl dX6_mayMany_11 (q := 12) rfl ?_
    refine s_bi (fun r0 hr0 => runS o cs_X6_306 (c_X6_bits (xG X) f x3 h (xl X) r0 hr0) ⟨Nat.le_of_ble_eq_true rfl, Nat.le_of_ble_eq_true rfl⟩ rfl rfl (Nat.le_of_ble_eq_true rfl) dX6_mayMany_12 ⟨Nat.le_of_ble_eq_true rfl, Nat.le_of_ble_eq_true rfl⟩) (q := 15) rfl (cs' := 0) rfl (sl' := 0) rfl (fun v2_ h1_ => ?_)
    refine s_aload_n o 0 rfl dX6_mayMany_15 (q := 16) rfl ?_
    refine s_gi o kf_X6_250 dX6_mayMany_16 (q := 19) rfl (fun v3_ => ?_)
    refine s_ic_ne o (tgt := 35) dX6_mayMany_19 (by decide) (q := 22) rfl ?_ ?_
    · exact s_sub [0, 1, 3] rfl (t_X6_mayMany_35 o f hk4 x0 x1 x3 x2 h1_)
    · refine s_aload_n o 0 rfl dX6_mayMany_22 (q := 23) rfl ?_
      refine s_iload_n o 1 rfl dX6_mayMany_23 (q := 24) rfl ?_
      refine s_iload_n o 3 rfl dX6_mayMany_24 (q := 25) rfl ?_
      refine s_on (fun hk4_ => ?_)
      refine s_bi (fun r0 hr0 => runV o hk4_ cv_X6_309 (c_X6_mayLie (xG X) f x0 x1 x3 h1_ (xl X) r0 hr0) ⟨Nat.le_of_ble_eq_true rfl, Nat.le_of_ble_eq_true rfl⟩ rfl rfl (Nat.le_of_ble_eq_true rfl) dX6_mayMany_25 ⟨Nat.le_of_ble_eq_true rfl, Nat.le_of_ble_eq_true rfl⟩) (q := 28) rfl (cs' := 0) rfl (sl' := 0) rfl (fun v6_ h5_ => ?_)
      refine s_if_eq o (tgt := 35) dX6_mayMany_28 (by decide) (q := 31) rfl ?_ ?_
      · exact s_sub [0, 1, 3] rfl (t_X6_mayMany_35 o f hk4 x0 x1 x3 x2 h5_)
      · refine s_iconst o dX6_mayMany_31 (v := (1 : Int32)) (by decide) (q := 32) rfl ?_
        refine s_goto o (tgt := 36) dX6_mayMany_32 (by decide) ?_
        exact s_sub [0, 1, 3] rfl (t_X6_mayMany_36 o f hk4 x0 x1 x3 x2 (1 : Int32) h5_)
theorem tl_X6_mayMany_4 {X : Cx} (o : Ok X RX6 cX6_mayMany 4 3 76 0 0 (some .int)) (f : Nat)  : ∀ (n : Nat) (x0 : Nat) (x1 : Int32) (x2 : Int32) (x3 : Int32) (h : Hp), Sim X (z_Zi X 0 0) 0 0 4 [(0, rf (xG X) x0), (1, .int x1), (2, .int x2), (3, .int x3)] [] h (l_X6_mayMany_4 f n x0 x1 x2 x3 h) := by
  intro n
  induction n with
  | zero => intro x0 x1 x2 x3 h; exact s_none
  | succ n ih => intro x0 x1 x2 x3 h; exact t_X6_mayMany_4 o f  ih x0 x1 x2 x3 h
set_option maxRecDepth 20000 in
theorem t_X6_mayMany_0 {X : Cx} (o : Ok X RX6 cX6_mayMany 4 3 76 0 0 (some .int)) (f : Nat)  (x0 : Nat) (x1 : Int32) (h : Hp) : Sim X (z_Zi X 0 0) 0 0 0 [(0, rf (xG X) x0), (1, .int x1)] [] h (f_X6_mayMany f x0 x1 h) := by
  unfold f_X6_mayMany
  refine s_iconst o dX6_mayMany_0 (v := (0 : Int32)) (by decide) (q := 1) rfl ?_
  refine s_istore_n o [1, 2, 0] (lv' := [(0, rf (xG X) x0), (1, .int x1), (2, .int (0 : Int32))]) rfl dX6_mayMany_1 (by decide) (q := 2) rfl ?_
  refine s_iconst o dX6_mayMany_2 (v := (0 : Int32)) (by decide) (q := 3) rfl ?_
  refine s_istore_n o [1, 2, 3, 0] (lv' := [(0, rf (xG X) x0), (1, .int x1), (2, .int (0 : Int32)), (3, .int (0 : Int32))]) rfl dX6_mayMany_3 (by decide) (q := 4) rfl ?_
  exact s_sub [0, 1, 2, 3] rfl (tl_X6_mayMany_4 o f f x0 x1 (0 : Int32) (0 : Int32) h)
theorem c_X6_mayMany (G : Gx) (f : Nat) (x0 : Nat) (x1 : Int32) (h : Hp) : z_M z_qi G yX6_mayMany cX6_mayMany 4 (some .int) 3 76 0 0 [rf G x0, .int x1] h (f_X6_mayMany f x0 x1 h) :=
  z_met (by decide +kernel) (Nat.le_of_ble_eq_true rfl) (fun X hG hn o hnm => by
    subst hG
    show Sim X (z_Zi X 0 0) 0 0 0 [(0, rf (xG X) x0), (1, .int x1)] [] h _
    exact s_sub [0, 1] rfl (t_X6_mayMany_0 o f x0 x1 h))
/-! SixMapsModel.worstOf(III)I -/
def b_X6_worstOf_187 (f : Nat) (k49 : Nat → Int32 → Int32 → Int32 → Int32 → Int32 → Int32 → Int32 → Int32 → Hp → Option (Int32 × Hp)) (x0 : Nat) (x1 : Int32) (x2 : Int32) (x3 : Int32) (x4 : Int32) (x5 : Int32) (x6 : Int32) (x7 : Int32) (x8 : Int32) (h : Hp) : Option (Int32 × Hp) :=
  lt (x8 + (1 : Int32)) fun v1_ =>
  k49 x0 x1 x2 x3 x4 x5 x6 x7 v1_ h
def b_X6_worstOf_185 (f : Nat) (k49 : Nat → Int32 → Int32 → Int32 → Int32 → Int32 → Int32 → Int32 → Int32 → Hp → Option (Int32 × Hp)) (x0 : Nat) (x1 : Int32) (x2 : Int32) (x3 : Int32) (x4 : Int32) (x5 : Int32) (x6 : Int32) (x8 : Int32) (y0 : Int32) (h : Hp) : Option (Int32 × Hp) :=
  b_X6_worstOf_187 f k49 x0 x1 x2 x3 x4 x5 x6 y0 x8 h
def b_X6_worstOf_163 (f : Nat) (k49 : Nat → Int32 → Int32 → Int32 → Int32 → Int32 → Int32 → Int32 → Int32 → Hp → Option (Int32 × Hp)) (x0 : Nat) (x1 : Int32) (x2 : Int32) (x3 : Int32) (x4 : Int32) (x5 : Int32) (x6 : Int32) (x7 : Int32) (x8 : Int32) (y0 : Nat) (y1 : Int32) (y2 : Int32) (h : Hp) : Option (Int32 × Hp) :=
  (q_as h y0 9 y1 y2).bind fun h1_ =>
  q_on h1_ x0 6 (
  bi (f_X6_mayMany f x0 x1 h1_) fun v4_ h3_ =>
  if v4_ ≤ x7 then
  (b_X6_worstOf_185 f k49 x0 x1 x2 x3 x4 x5 x6 x8 x7 h3_)
  else
  (b_X6_worstOf_185 f k49 x0 x1 x2 x3 x4 x5 x6 x8 v4_ h3_))
def b_X6_worstOf_131 (f : Nat) (k49 : Nat → Int32 → Int32 → Int32 → Int32 → Int32 → Int32 → Int32 → Int32 → Hp → Option (Int32 × Hp)) (x0 : Nat) (x1 : Int32) (x2 : Int32) (x3 : Int32) (x4 : Int32) (x5 : Int32) (x6 : Int32) (x7 : Int32) (x8 : Int32) (y0 : Nat) (y1 : Int32) (y2 : Int32) (h : Hp) : Option (Int32 × Hp) :=
  (q_as h y0 9 y1 y2).bind fun h1_ =>
  (q_gr h1_ x0 6 4).bind fun a2_ =>
  if ¬ x8 = (6 : Int32) then
  ((q_gr h1_ x0 6 4).bind fun a3_ =>
  (q_ai h1_ a3_ 9 (((9 : Int32) * x8) + x3)).bind fun v4_ =>
  b_X6_worstOf_163 f k49 x0 x1 x2 x3 x4 x5 x6 x7 x8 a2_ x4 v4_ h1_)
  else
  (b_X6_worstOf_163 f k49 x0 x1 x2 x3 x4 x5 x6 x7 x8 a2_ x4 (2000 : Int32) h1_)
def b_X6_worstOf_93 (f : Nat) (k49 : Nat → Int32 → Int32 → Int32 → Int32 → Int32 → Int32 → Int32 → Int32 → Hp → Option (Int32 × Hp)) (x0 : Nat) (x1 : Int32) (x2 : Int32) (x3 : Int32) (x4 : Int32) (x5 : Int32) (x6 : Int32) (x7 : Int32) (x8 : Int32) (y0 : Int32) (h : Hp) : Option (Int32 × Hp) :=
  if y0 = 0 then
  (b_X6_worstOf_187 f k49 x0 x1 x2 x3 x4 x5 x6 x7 x8 h)
  else
  ((q_gr h x0 6 3).bind fun a1_ =>
  if ¬ x8 = (6 : Int32) then
  ((q_gr h x0 6 3).bind fun a2_ =>
  (q_ai h a2_ 9 (((9 : Int32) * x8) + x3)).bind fun v3_ =>
  b_X6_worstOf_131 f k49 x0 x1 x2 x3 x4 x5 x6 x7 x8 a1_ x4 v3_ h)
  else
  (b_X6_worstOf_131 f k49 x0 x1 x2 x3 x4 x5 x6 x7 x8 a1_ x4 (2000 : Int32) h))
def b_X6_worstOf_92 (f : Nat) (k49 : Nat → Int32 → Int32 → Int32 → Int32 → Int32 → Int32 → Int32 → Int32 → Hp → Option (Int32 × Hp)) (x0 : Nat) (x1 : Int32) (x2 : Int32) (x3 : Int32) (x4 : Int32) (x5 : Int32) (x6 : Int32) (x7 : Int32) (x8 : Int32) (h : Hp) : Option (Int32 × Hp) :=
  b_X6_worstOf_93 f k49 x0 x1 x2 x3 x4 x5 x6 x7 x8 (0 : Int32) h
def b_X6_worstOf_88 (f : Nat) (k49 : Nat → Int32 → Int32 → Int32 → Int32 → Int32 → Int32 → Int32 → Int32 → Hp → Option (Int32 × Hp)) (x0 : Nat) (x1 : Int32) (x2 : Int32) (x3 : Int32) (x4 : Int32) (x5 : Int32) (x6 : Int32) (x7 : Int32) (x8 : Int32) (h : Hp) : Option (Int32 × Hp) :=
  b_X6_worstOf_93 f k49 x0 x1 x2 x3 x4 x5 x6 x7 x8 (1 : Int32) h
def b_X6_worstOf_49 (f : Nat) (k49 : Nat → Int32 → Int32 → Int32 → Int32 → Int32 → Int32 → Int32 → Int32 → Hp → Option (Int32 × Hp)) (x0 : Nat) (x1 : Int32) (x2 : Int32) (x3 : Int32) (x4 : Int32) (x5 : Int32) (x6 : Int32) (x7 : Int32) (x8 : Int32) (h : Hp) : Option (Int32 × Hp) :=
  if (6 : Int32) < x8 then
  ((q_gr h x0 6 11).bind fun a1_ =>
  (q_ai h a1_ 9 (((6 : Int32) * x1) + x2)).bind fun v2_ =>
  (q_as h a1_ 9 (((6 : Int32) * x1) + x2) (v2_ &&& (((1 : Int32) <<< (x3 &&& 31)) ^^^ (-1 : Int32)))).bind fun h3_ =>
  (q_gr h3_ x0 6 3).bind fun a4_ =>
  (q_as h3_ a4_ 9 x4 x5).bind fun h5_ =>
  (q_gr h5_ x0 6 4).bind fun a6_ =>
  (q_as h5_ a6_ 9 x4 x6).bind fun h7_ =>
  some (x7, h7_))
  else
  (if x8 = (6 : Int32) then
  (b_X6_worstOf_88 f k49 x0 x1 x2 x3 x4 x5 x6 x7 x8 h)
  else
  (if x8 = x2 then
  (b_X6_worstOf_92 f k49 x0 x1 x2 x3 x4 x5 x6 x7 x8 h)
  else
  ((q_gr h x0 6 11).bind fun a8_ =>
  (q_ai h a8_ 9 (((6 : Int32) * x1) + x8)).bind fun v9_ =>
  bi (f_X6_has f v9_ x3 h) fun v11_ h10_ =>
  if v11_ = 0 then
  (b_X6_worstOf_92 f k49 x0 x1 x2 x3 x4 x5 x6 x7 x8 h10_)
  else
  (b_X6_worstOf_88 f k49 x0 x1 x2 x3 x4 x5 x6 x7 x8 h10_))))
def l_X6_worstOf_49 (f : Nat)  : Nat → Nat → Int32 → Int32 → Int32 → Int32 → Int32 → Int32 → Int32 → Int32 → Hp → Option (Int32 × Hp)
  | 0, _, _, _, _, _, _, _, _, _, _ => none
  | n + 1, x0, x1, x2, x3, x4, x5, x6, x7, x8, h => b_X6_worstOf_49 f  (l_X6_worstOf_49 f  n) x0 x1 x2 x3 x4 x5 x6 x7 x8 h
def f_X6_worstOf (f : Nat)  (x0 : Nat) (x1 : Int32) (x2 : Int32) (x3 : Int32) (h : Hp) : Option (Int32 × Hp) :=
  lt (((9 : Int32) * x2) + x3) fun v1_ =>
  (q_gr h x0 6 3).bind fun a2_ =>
  (q_ai h a2_ 9 v1_).bind fun v3_ =>
  (q_gr h x0 6 4).bind fun a4_ =>
  (q_ai h a4_ 9 v1_).bind fun v5_ =>
  (q_gr h x0 6 11).bind fun a6_ =>
  (q_ai h a6_ 9 (((6 : Int32) * x1) + x2)).bind fun v7_ =>
  (q_as h a6_ 9 (((6 : Int32) * x1) + x2) (v7_ ||| ((1 : Int32) <<< (x3 &&& 31)))).bind fun h8_ =>
  l_X6_worstOf_49 f f x0 x1 x2 x3 v1_ v3_ v5_ (0 : Int32) (0 : Int32) h8_
set_option maxRecDepth 20000 in
theorem t_X6_worstOf_187 {X : Cx} (o : Ok X RX6 cX6_worstOf 11 4 99 0 0 (some .int)) (f : Nat) {k49 : Nat → Int32 → Int32 → Int32 → Int32 → Int32 → Int32 → Int32 → Int32 → Hp → Option (Int32 × Hp)} (hk49 : ∀ (x0 : Nat) (x1 : Int32) (x2 : Int32) (x3 : Int32) (x4 : Int32) (x5 : Int32) (x6 : Int32) (x7 : Int32) (x8 : Int32) (h : Hp), Sim X (z_Zi X 0 0) 0 0 49 [(0, rf (xG X) x0), (1, .int x1), (2, .int x2), (3, .int x3), (4, .int x4), (5, .int x5), (6, .int x6), (7, .int x7), (8, .int x8)] [] h (k49 x0 x1 x2 x3 x4 x5 x6 x7 x8 h)) (x0 : Nat) (x1 : Int32) (x2 : Int32) (x3 : Int32) (x4 : Int32) (x5 : Int32) (x6 : Int32) (x7 : Int32) (x8 : Int32) (h : Hp) : Sim X (z_Zi X 0 0) 0 0 187 [(0, rf (xG X) x0), (1, .int x1), (2, .int x2), (3, .int x3), (4, .int x4), (5, .int x5), (6, .int x6), (7, .int x7), (8, .int x8)] [] h (b_X6_worstOf_187 f k49 x0 x1 x2 x3 x4 x5 x6 x7 x8 h) := by
  unfold b_X6_worstOf_187
  refine s_iinc o 8 rfl (v := (1 : Int32)) (by decide) [1, 2, 3, 4, 5, 6, 7, 8, 0] (lv' := fun v1_ => [(0, rf (xG X) x0), (1, .int x1), (2, .int x2), (3, .int x3), (4, .int x4), (5, .int x5), (6, .int x6), (7, .int x7), (8, .int v1_)]) (fun _ => rfl) dX6_worstOf_187 (by decide) (q := 190) rfl (fun v1_ => ?_)
  refine s_goto o (tgt := 49) dX6_worstOf_190 (by decide) ?_
  exact s_sub [0, 1, 2, 3, 4, 5, 6, 7, 8] rfl (hk49 x0 x1 x2 x3 x4 x5 x6 x7 v1_ h)
set_option maxRecDepth 20000 in
theorem t_X6_worstOf_185 {X : Cx} (o : Ok X RX6 cX6_worstOf 11 4 99 0 0 (some .int)) (f : Nat) {k49 : Nat → Int32 → Int32 → Int32 → Int32 → Int32 → Int32 → Int32 → Int32 → Hp → Option (Int32 × Hp)} (hk49 : ∀ (x0 : Nat) (x1 : Int32) (x2 : Int32) (x3 : Int32) (x4 : Int32) (x5 : Int32) (x6 : Int32) (x7 : Int32) (x8 : Int32) (h : Hp), Sim X (z_Zi X 0 0) 0 0 49 [(0, rf (xG X) x0), (1, .int x1), (2, .int x2), (3, .int x3), (4, .int x4), (5, .int x5), (6, .int x6), (7, .int x7), (8, .int x8)] [] h (k49 x0 x1 x2 x3 x4 x5 x6 x7 x8 h)) (x0 : Nat) (x1 : Int32) (x2 : Int32) (x3 : Int32) (x4 : Int32) (x5 : Int32) (x6 : Int32) (x8 : Int32) (y0 : Int32) (h : Hp) : Sim X (z_Zi X 0 0) 0 0 185 [(0, rf (xG X) x0), (1, .int x1), (2, .int x2), (3, .int x3), (4, .int x4), (5, .int x5), (6, .int x6), (8, .int x8)] [.int y0] h (b_X6_worstOf_185 f k49 x0 x1 x2 x3 x4 x5 x6 x8 y0 h) := by
  unfold b_X6_worstOf_185
  refine s_istore o [1, 2, 3, 4, 5, 6, 7, 0, 8] (lv' := [(0, rf (xG X) x0), (1, .int x1), (2, .int x2), (3, .int x3), (4, .int x4), (5, .int x5), (6, .int x6), (7, .int y0), (8, .int x8)]) rfl dX6_worstOf_185 (by decide) (q := 187) rfl ?_
  exact s_sub [0, 1, 2, 3, 4, 5, 6, 7, 8] rfl (t_X6_worstOf_187 o f hk49 x0 x1 x2 x3 x4 x5 x6 y0 x8 h)
set_option maxRecDepth 20000 in
theorem t_X6_worstOf_163 {X : Cx} (o : Ok X RX6 cX6_worstOf 11 4 99 0 0 (some .int)) (f : Nat) {k49 : Nat → Int32 → Int32 → Int32 → Int32 → Int32 → Int32 → Int32 → Int32 → Hp → Option (Int32 × Hp)} (hk49 : ∀ (x0 : Nat) (x1 : Int32) (x2 : Int32) (x3 : Int32) (x4 : Int32) (x5 : Int32) (x6 : Int32) (x7 : Int32) (x8 : Int32) (h : Hp), Sim X (z_Zi X 0 0) 0 0 49 [(0, rf (xG X) x0), (1, .int x1), (2, .int x2), (3, .int x3), (4, .int x4), (5, .int x5), (6, .int x6), (7, .int x7), (8, .int x8)] [] h (k49 x0 x1 x2 x3 x4 x5 x6 x7 x8 h)) (x0 : Nat) (x1 : Int32) (x2 : Int32) (x3 : Int32) (x4 : Int32) (x5 : Int32) (x6 : Int32) (x7 : Int32) (x8 : Int32) (y0 : Nat) (y1 : Int32) (y2 : Int32) (h : Hp) : Sim X (z_Zi X 0 0) 0 0 163 [(0, rf (xG X) x0), (1, .int x1), (2, .int x2), (3, .int x3), (4, .int x4), (5, .int x5), (6, .int x6), (7, .int x7), (8, .int x8)] [.int y2, .int y1, rf (xG X) y0] h (b_X6_worstOf_163 f k49 x0 x1 x2 x3 x4 x5 x6 x7 x8 y0 y1 y2 h) := by
  unfold b_X6_worstOf_163
  refine s_iast o dX6_worstOf_163 (q := 164) rfl (fun h1_ => ?_)
  refine s_aload_n o 0 rfl dX6_worstOf_164 (q := 165) rfl ?_
  refine s_iload_n o 1 rfl dX6_worstOf_165 (q := 166) rfl ?_
  refine s_on (fun hk2_ => ?_)
  refine s_bi (fun r0 hr0 => runV o hk2_ cv_X6_330 (c_X6_mayMany (xG X) f x0 x1 h1_ (xl X) r0 hr0) ⟨Nat.le_of_ble_eq_true rfl, Nat.le_of_ble_eq_true rfl⟩ rfl rfl (Nat.le_of_ble_eq_true rfl) dX6_worstOf_166 ⟨Nat.le_of_ble_eq_true rfl, Nat.le_of_ble_eq_true rfl⟩) (q := 169) rfl (cs' := 0) rfl (sl' := 0) rfl (fun v4_ h3_ => ?_)
  refine s_istore o [1, 2, 3, 4, 5, 6, 7, 8, 9, 0] (lv' := [(0, rf (xG X) x0), (1, .int x1), (2, .int x2), (3, .int x3), (4, .int x4), (5, .int x5), (6, .int x6), (7, .int x7), (8, .int x8), (10, .int v4_)]) rfl dX6_worstOf_169 (by decide) (q := 171) rfl ?_
  refine s_iload o 9 rfl dX6_worstOf_171 (q := 173) rfl ?_
  refine s_iload o 7 rfl dX6_worstOf_173 (q := 175) rfl ?_
  refine s_ic_le o (tgt := 183) dX6_worstOf_175 (by decide) (q := 178) rfl ?_ ?_
  · refine s_iload o 7 rfl dX6_worstOf_183 (q := 185) rfl ?_
    exact s_sub [0, 1, 2, 3, 4, 5, 6, 8] rfl (t_X6_worstOf_185 o f hk49 x0 x1 x2 x3 x4 x5 x6 x8 x7 h3_)
  · refine s_iload o 9 rfl dX6_worstOf_178 (q := 180) rfl ?_
    refine s_goto o (tgt := 185) dX6_worstOf_180 (by decide) ?_
    exact s_sub [0, 1, 2, 3, 4, 5, 6, 8] rfl (t_X6_worstOf_185 o f hk49 x0 x1 x2 x3 x4 x5 x6 x8 v4_ h3_)
set_option maxRecDepth 20000 in
theorem t_X6_worstOf_131 {X : Cx} (o : Ok X RX6 cX6_worstOf 11 4 99 0 0 (some .int)) (f : Nat) {k49 : Nat → Int32 → Int32 → Int32 → Int32 → Int32 → Int32 → Int32 → Int32 → Hp → Option (Int32 × Hp)} (hk49 : ∀ (x0 : Nat) (x1 : Int32) (x2 : Int32) (x3 : Int32) (x4 : Int32) (x5 : Int32) (x6 : Int32) (x7 : Int32) (x8 : Int32) (h : Hp), Sim X (z_Zi X 0 0) 0 0 49 [(0, rf (xG X) x0), (1, .int x1), (2, .int x2), (3, .int x3), (4, .int x4), (5, .int x5), (6, .int x6), (7, .int x7), (8, .int x8)] [] h (k49 x0 x1 x2 x3 x4 x5 x6 x7 x8 h)) (x0 : Nat) (x1 : Int32) (x2 : Int32) (x3 : Int32) (x4 : Int32) (x5 : Int32) (x6 : Int32) (x7 : Int32) (x8 : Int32) (y0 : Nat) (y1 : Int32) (y2 : Int32) (h : Hp) : Sim X (z_Zi X 0 0) 0 0 131 [(0, rf (xG X) x0), (1, .int x1), (2, .int x2), (3, .int x3), (4, .int x4), (5, .int x5), (6, .int x6), (7, .int x7), (8, .int x8)] [.int y2, .int y1, rf (xG X) y0] h (b_X6_worstOf_131 f k49 x0 x1 x2 x3 x4 x5 x6 x7 x8 y0 y1 y2 h) := by
  unfold b_X6_worstOf_131
  refine s_iast o dX6_worstOf_131 (q := 132) rfl (fun h1_ => ?_)
  refine s_aload_n o 0 rfl dX6_worstOf_132 (q := 133) rfl ?_
  refine s_gr o kf_X6_19 dX6_worstOf_133 (q := 136) rfl (fun a2_ => ?_)
  refine s_iload o 4 rfl dX6_worstOf_136 (q := 138) rfl ?_
  refine s_iload o 8 rfl dX6_worstOf_138 (q := 140) rfl ?_
  refine s_bipush o dX6_worstOf_140 (v := (6 : Int32)) (by decide) (q := 142) rfl ?_
  refine s_ic_ne o (tgt := 151) dX6_worstOf_142 (by decide) (q := 145) rfl ?_ ?_
  · refine s_aload_n o 0 rfl dX6_worstOf_151 (q := 152) rfl ?_
    refine s_gr o kf_X6_19 dX6_worstOf_152 (q := 155) rfl (fun a3_ => ?_)
    refine s_bipush o dX6_worstOf_155 (v := (9 : Int32)) (by decide) (q := 157) rfl ?_
    refine s_iload o 8 rfl dX6_worstOf_157 (q := 159) rfl ?_
    refine s_imul o dX6_worstOf_159 (q := 160) rfl ?_
    refine s_iload_n o 3 rfl dX6_worstOf_160 (q := 161) rfl ?_
    refine s_iadd o dX6_worstOf_161 (q := 162) rfl ?_
    refine s_iald o dX6_worstOf_162 (q := 163) rfl (fun v4_ => ?_)
    exact s_sub [0, 1, 2, 3, 4, 5, 6, 7, 8] rfl (t_X6_worstOf_163 o f hk49 x0 x1 x2 x3 x4 x5 x6 x7 x8 a2_ x4 v4_ h1_)
  · refine s_sipush o dX6_worstOf_145 (v := (2000 : Int32)) (by decide) (q := 148) rfl ?_
    refine s_goto o (tgt := 163) dX6_worstOf_148 (by decide) ?_
    exact s_sub [0, 1, 2, 3, 4, 5, 6, 7, 8] rfl (t_X6_worstOf_163 o f hk49 x0 x1 x2 x3 x4 x5 x6 x7 x8 a2_ x4 (2000 : Int32) h1_)
set_option maxRecDepth 20000 in
theorem t_X6_worstOf_93 {X : Cx} (o : Ok X RX6 cX6_worstOf 11 4 99 0 0 (some .int)) (f : Nat) {k49 : Nat → Int32 → Int32 → Int32 → Int32 → Int32 → Int32 → Int32 → Int32 → Hp → Option (Int32 × Hp)} (hk49 : ∀ (x0 : Nat) (x1 : Int32) (x2 : Int32) (x3 : Int32) (x4 : Int32) (x5 : Int32) (x6 : Int32) (x7 : Int32) (x8 : Int32) (h : Hp), Sim X (z_Zi X 0 0) 0 0 49 [(0, rf (xG X) x0), (1, .int x1), (2, .int x2), (3, .int x3), (4, .int x4), (5, .int x5), (6, .int x6), (7, .int x7), (8, .int x8)] [] h (k49 x0 x1 x2 x3 x4 x5 x6 x7 x8 h)) (x0 : Nat) (x1 : Int32) (x2 : Int32) (x3 : Int32) (x4 : Int32) (x5 : Int32) (x6 : Int32) (x7 : Int32) (x8 : Int32) (y0 : Int32) (h : Hp) : Sim X (z_Zi X 0 0) 0 0 93 [(0, rf (xG X) x0), (1, .int x1), (2, .int x2), (3, .int x3), (4, .int x4), (5, .int x5), (6, .int x6), (7, .int x7), (8, .int x8)] [.int y0] h (b_X6_worstOf_93 f k49 x0 x1 x2 x3 x4 x5 x6 x7 x8 y0 h) := by
  unfold b_X6_worstOf_93
  refine s_istore o [1, 2, 3, 4, 5, 6, 7, 8, 9, 0] (lv' := [(0, rf (xG X) x0), (1, .int x1), (2, .int x2), (3, .int x3), (4, .int x4), (5, .int x5), (6, .int x6), (7, .int x7), (8, .int x8), (9, .int y0)]) rfl dX6_worstOf_93 (by decide) (q := 95) rfl ?_
  refine s_iload o 9 rfl dX6_worstOf_95 (q := 97) rfl ?_
  refine s_if_eq o (tgt := 187) dX6_worstOf_97 (by decide) (q := 100) rfl ?_ ?_
  · exact s_sub [0, 1, 2, 3, 4, 5, 6, 7, 8] rfl (t_X6_worstOf_187 o f hk49 x0 x1 x2 x3 x4 x5 x6 x7 x8 h)
  · refine s_aload_n o 0 rfl dX6_worstOf_100 (q := 101) rfl ?_
    refine s_gr o kf_X6_16 dX6_worstOf_101 (q := 104) rfl (fun a1_ => ?_)
    refine s_iload o 4 rfl dX6_worstOf_104 (q := 106) rfl ?_
    refine s_iload o 8 rfl dX6_worstOf_106 (q := 108) rfl ?_
    refine s_bipush o dX6_worstOf_108 (v := (6 : Int32)) (by decide) (q := 110) rfl ?_
    refine s_ic_ne o (tgt := 119) dX6_worstOf_110 (by decide) (q := 113) rfl ?_ ?_
    · refine s_aload_n o 0 rfl dX6_worstOf_119 (q := 120) rfl ?_
      refine s_gr o kf_X6_16 dX6_worstOf_120 (q := 123) rfl (fun a2_ => ?_)
      refine s_bipush o dX6_worstOf_123 (v := (9 : Int32)) (by decide) (q := 125) rfl ?_
      refine s_iload o 8 rfl dX6_worstOf_125 (q := 127) rfl ?_
      refine s_imul o dX6_worstOf_127 (q := 128) rfl ?_
      refine s_iload_n o 3 rfl dX6_worstOf_128 (q := 129) rfl ?_
      refine s_iadd o dX6_worstOf_129 (q := 130) rfl ?_
      refine s_iald o dX6_worstOf_130 (q := 131) rfl (fun v3_ => ?_)
      exact s_sub [0, 1, 2, 3, 4, 5, 6, 7, 8] rfl (t_X6_worstOf_131 o f hk49 x0 x1 x2 x3 x4 x5 x6 x7 x8 a1_ x4 v3_ h)
    · refine s_sipush o dX6_worstOf_113 (v := (2000 : Int32)) (by decide) (q := 116) rfl ?_
      refine s_goto o (tgt := 131) dX6_worstOf_116 (by decide) ?_
      exact s_sub [0, 1, 2, 3, 4, 5, 6, 7, 8] rfl (t_X6_worstOf_131 o f hk49 x0 x1 x2 x3 x4 x5 x6 x7 x8 a1_ x4 (2000 : Int32) h)
set_option maxRecDepth 20000 in
theorem t_X6_worstOf_92 {X : Cx} (o : Ok X RX6 cX6_worstOf 11 4 99 0 0 (some .int)) (f : Nat) {k49 : Nat → Int32 → Int32 → Int32 → Int32 → Int32 → Int32 → Int32 → Int32 → Hp → Option (Int32 × Hp)} (hk49 : ∀ (x0 : Nat) (x1 : Int32) (x2 : Int32) (x3 : Int32) (x4 : Int32) (x5 : Int32) (x6 : Int32) (x7 : Int32) (x8 : Int32) (h : Hp), Sim X (z_Zi X 0 0) 0 0 49 [(0, rf (xG X) x0), (1, .int x1), (2, .int x2), (3, .int x3), (4, .int x4), (5, .int x5), (6, .int x6), (7, .int x7), (8, .int x8)] [] h (k49 x0 x1 x2 x3 x4 x5 x6 x7 x8 h)) (x0 : Nat) (x1 : Int32) (x2 : Int32) (x3 : Int32) (x4 : Int32) (x5 : Int32) (x6 : Int32) (x7 : Int32) (x8 : Int32) (h : Hp) : Sim X (z_Zi X 0 0) 0 0 92 [(0, rf (xG X) x0), (1, .int x1), (2, .int x2), (3, .int x3), (4, .int x4), (5, .int x5), (6, .int x6), (7, .int x7), (8, .int x8)] [] h (b_X6_worstOf_92 f k49 x0 x1 x2 x3 x4 x5 x6 x7 x8 h) := by
  unfold b_X6_worstOf_92
  refine s_iconst o dX6_worstOf_92 (v := (0 : Int32)) (by decide) (q := 93) rfl ?_
  exact s_sub [0, 1, 2, 3, 4, 5, 6, 7, 8] rfl (t_X6_worstOf_93 o f hk49 x0 x1 x2 x3 x4 x5 x6 x7 x8 (0 : Int32) h)
set_option maxRecDepth 20000 in
theorem t_X6_worstOf_88 {X : Cx} (o : Ok X RX6 cX6_worstOf 11 4 99 0 0 (some .int)) (f : Nat) {k49 : Nat → Int32 → Int32 → Int32 → Int32 → Int32 → Int32 → Int32 → Int32 → Hp → Option (Int32 × Hp)} (hk49 : ∀ (x0 : Nat) (x1 : Int32) (x2 : Int32) (x3 : Int32) (x4 : Int32) (x5 : Int32) (x6 : Int32) (x7 : Int32) (x8 : Int32) (h : Hp), Sim X (z_Zi X 0 0) 0 0 49 [(0, rf (xG X) x0), (1, .int x1), (2, .int x2), (3, .int x3), (4, .int x4), (5, .int x5), (6, .int x6), (7, .int x7), (8, .int x8)] [] h (k49 x0 x1 x2 x3 x4 x5 x6 x7 x8 h)) (x0 : Nat) (x1 : Int32) (x2 : Int32) (x3 : Int32) (x4 : Int32) (x5 : Int32) (x6 : Int32) (x7 : Int32) (x8 : Int32) (h : Hp) : Sim X (z_Zi X 0 0) 0 0 88 [(0, rf (xG X) x0), (1, .int x1), (2, .int x2), (3, .int x3), (4, .int x4), (5, .int x5), (6, .int x6), (7, .int x7), (8, .int x8)] [] h (b_X6_worstOf_88 f k49 x0 x1 x2 x3 x4 x5 x6 x7 x8 h) := by
  unfold b_X6_worstOf_88
  refine s_iconst o dX6_worstOf_88 (v := (1 : Int32)) (by decide) (q := 89) rfl ?_
  refine s_goto o (tgt := 93) dX6_worstOf_89 (by decide) ?_
  exact s_sub [0, 1, 2, 3, 4, 5, 6, 7, 8] rfl (t_X6_worstOf_93 o f hk49 x0 x1 x2 x3 x4 x5 x6 x7 x8 (1 : Int32) h)
set_option maxRecDepth 20000 in
theorem t_X6_worstOf_49 {X : Cx} (o : Ok X RX6 cX6_worstOf 11 4 99 0 0 (some .int)) (f : Nat) {k49 : Nat → Int32 → Int32 → Int32 → Int32 → Int32 → Int32 → Int32 → Int32 → Hp → Option (Int32 × Hp)} (hk49 : ∀ (x0 : Nat) (x1 : Int32) (x2 : Int32) (x3 : Int32) (x4 : Int32) (x5 : Int32) (x6 : Int32) (x7 : Int32) (x8 : Int32) (h : Hp), Sim X (z_Zi X 0 0) 0 0 49 [(0, rf (xG X) x0), (1, .int x1), (2, .int x2), (3, .int x3), (4, .int x4), (5, .int x5), (6, .int x6), (7, .int x7), (8, .int x8)] [] h (k49 x0 x1 x2 x3 x4 x5 x6 x7 x8 h)) (x0 : Nat) (x1 : Int32) (x2 : Int32) (x3 : Int32) (x4 : Int32) (x5 : Int32) (x6 : Int32) (x7 : Int32) (x8 : Int32) (h : Hp) : Sim X (z_Zi X 0 0) 0 0 49 [(0, rf (xG X) x0), (1, .int x1), (2, .int x2), (3, .int x3), (4, .int x4), (5, .int x5), (6, .int x6), (7, .int x7), (8, .int x8)] [] h (b_X6_worstOf_49 f k49 x0 x1 x2 x3 x4 x5 x6 x7 x8 h) := by
  unfold b_X6_worstOf_49
  refine s_iload o 8 rfl dX6_worstOf_49 (q := 51) rfl ?_
  refine s_bipush o dX6_worstOf_51 (v := (6 : Int32)) (by decide) (q := 53) rfl ?_
  refine s_ic_gt o (tgt := 193) dX6_worstOf_53 (by decide) (q := 56) rfl ?_ ?_
  · refine s_aload_n o 0 rfl dX6_worstOf_193 (q := 194) rfl ?_
    refine s_gr o kf_X6_32 dX6_worstOf_194 (q := 197) rfl (fun a1_ => ?_)
    refine s_bipush o dX6_worstOf_197 (v := (6 : Int32)) (by decide) (q := 199) rfl ?_
    refine s_iload_n o 1 rfl dX6_worstOf_199 (q := 200) rfl ?_
    refine s_imul o dX6_worstOf_200 (q := 201) rfl ?_
    refine s_iload_n o 2 rfl dX6_worstOf_201 (q := 202) rfl ?_
    refine s_iadd o dX6_worstOf_202 (q := 203) rfl ?_
    refine s_dup2 o rfl rfl dX6_worstOf_203 (q := 204) rfl ?_
    refine s_iald o dX6_worstOf_204 (q := 205) rfl (fun v2_ => ?_)
    refine s_iconst o dX6_worstOf_205 (v := (1 : Int32)) (by decide) (q := 206) rfl ?_
    refine s_iload_n o 3 rfl dX6_worstOf_206 (q := 207) rfl ?_
    refine s_ishl o dX6_worstOf_207 (q := 208) rfl ?_
    refine s_iconst o dX6_worstOf_208 (v := (-1 : Int32)) (by decide) (q := 209) rfl ?_
    refine s_ixor o dX6_worstOf_209 (q := 210) rfl ?_
    refine s_iand o dX6_worstOf_210 (q := 211) rfl ?_
    refine s_iast o dX6_worstOf_211 (q := 212) rfl (fun h3_ => ?_)
    refine s_aload_n o 0 rfl dX6_worstOf_212 (q := 213) rfl ?_
    refine s_gr o kf_X6_16 dX6_worstOf_213 (q := 216) rfl (fun a4_ => ?_)
    refine s_iload o 4 rfl dX6_worstOf_216 (q := 218) rfl ?_
    refine s_iload o 5 rfl dX6_worstOf_218 (q := 220) rfl ?_
    refine s_iast o dX6_worstOf_220 (q := 221) rfl (fun h5_ => ?_)
    refine s_aload_n o 0 rfl dX6_worstOf_221 (q := 222) rfl ?_
    refine s_gr o kf_X6_19 dX6_worstOf_222 (q := 225) rfl (fun a6_ => ?_)
    refine s_iload o 4 rfl dX6_worstOf_225 (q := 227) rfl ?_
    refine s_iload o 6 rfl dX6_worstOf_227 (q := 229) rfl ?_
    refine s_iast o dX6_worstOf_229 (q := 230) rfl (fun h7_ => ?_)
    refine s_iload o 7 rfl dX6_worstOf_230 (q := 232) rfl ?_
    exact s_iret o dX6_worstOf_232
  · refine s_iload o 8 rfl dX6_worstOf_56 (q := 58) rfl ?_
    refine s_bipush o dX6_worstOf_58 (v := (6 : Int32)) (by decide) (q := 60) rfl ?_
    refine s_ic_eq o (tgt := 88) dX6_worstOf_60 (by decide) (q := 63) rfl ?_ ?_
    · exact s_sub [0, 1, 2, 3, 4, 5, 6, 7, 8] rfl (t_X6_worstOf_88 o f hk49 x0 x1 x2 x3 x4 x5 x6 x7 x8 h)
    · refine s_iload o 8 rfl dX6_worstOf_63 (q := 65) rfl ?_
      refine s_iload_n o 2 rfl dX6_worstOf_65 (q := 66) rfl ?_
      refine s_ic_eq o (tgt := 92) dX6_worstOf_66 (by decide) (q := 69) rfl ?_ ?_
      · exact s_sub [0, 1, 2, 3, 4, 5, 6, 7, 8] rfl (t_X6_worstOf_92 o f hk49 x0 x1 x2 x3 x4 x5 x6 x7 x8 h)
      · refine s_aload_n o 0 rfl dX6_worstOf_69 (q := 70) rfl ?_
        refine s_gr o kf_X6_32 dX6_worstOf_70 (q := 73) rfl (fun a8_ => ?_)
        refine s_bipush o dX6_worstOf_73 (v := (6 : Int32)) (by decide) (q := 75) rfl ?_
        refine s_iload_n o 1 rfl dX6_worstOf_75 (q := 76) rfl ?_
        refine s_imul o dX6_worstOf_76 (q := 77) rfl ?_
        refine s_iload o 8 rfl dX6_worstOf_77 (q := 79) rfl ?_
        refine s_iadd o dX6_worstOf_79 (q := 80) rfl ?_
        refine s_iald o dX6_worstOf_80 (q := 81) rfl (fun v9_ => ?_)
        refine s_iload_n o 3 rfl dX6_worstOf_81 (q := 82) rfl ?_
        refine s_bi (fun r0 hr0 => runS o cs_X6_182 (c_X6_has (xG X) f v9_ x3 h (xl X) r0 hr0) ⟨Nat.le_of_ble_eq_true rfl, Nat.le_of_ble_eq_true rfl⟩ rfl rfl (Nat.le_of_ble_eq_true rfl) dX6_worstOf_82 ⟨Nat.le_of_ble_eq_true rfl, Nat.le_of_ble_eq_true rfl⟩) (q := 85) rfl (cs' := 0) rfl (sl' := 0) rfl (fun v11_ h10_ => ?_)
        refine s_if_eq o (tgt := 92) dX6_worstOf_85 (by decide) (q := 88) rfl ?_ ?_
        · exact s_sub [0, 1, 2, 3, 4, 5, 6, 7, 8] rfl (t_X6_worstOf_92 o f hk49 x0 x1 x2 x3 x4 x5 x6 x7 x8 h10_)
        · exact s_sub [0, 1, 2, 3, 4, 5, 6, 7, 8] rfl (t_X6_worstOf_88 o f hk49 x0 x1 x2 x3 x4 x5 x6 x7 x8 h10_)
theorem tl_X6_worstOf_49 {X : Cx} (o : Ok X RX6 cX6_worstOf 11 4 99 0 0 (some .int)) (f : Nat)  : ∀ (n : Nat) (x0 : Nat) (x1 : Int32) (x2 : Int32) (x3 : Int32) (x4 : Int32) (x5 : Int32) (x6 : Int32) (x7 : Int32) (x8 : Int32) (h : Hp), Sim X (z_Zi X 0 0) 0 0 49 [(0, rf (xG X) x0), (1, .int x1), (2, .int x2), (3, .int x3), (4, .int x4), (5, .int x5), (6, .int x6), (7, .int x7), (8, .int x8)] [] h (l_X6_worstOf_49 f n x0 x1 x2 x3 x4 x5 x6 x7 x8 h) := by
  intro n
  induction n with
  | zero => intro x0 x1 x2 x3 x4 x5 x6 x7 x8 h; exact s_none
  | succ n ih => intro x0 x1 x2 x3 x4 x5 x6 x7 x8 h; exact t_X6_worstOf_49 o f  ih x0 x1 x2 x3 x4 x5 x6 x7 x8 h
set_option maxRecDepth 20000 in
theorem t_X6_worstOf_0 {X : Cx} (o : Ok X RX6 cX6_worstOf 11 4 99 0 0 (some .int)) (f : Nat)  (x0 : Nat) (x1 : Int32) (x2 : Int32) (x3 : Int32) (h : Hp) : Sim X (z_Zi X 0 0) 0 0 0 [(0, rf (xG X) x0), (1, .int x1), (2, .int x2), (3, .int x3)] [] h (f_X6_worstOf f x0 x1 x2 x3 h) := by
  unfold f_X6_worstOf
  refine s_bipush o dX6_worstOf_0 (v := (9 : Int32)) (by decide) (q := 2) rfl ?_
  refine s_iload_n o 2 rfl dX6_worstOf_2 (q := 3) rfl ?_
  refine s_imul o dX6_worstOf_3 (q := 4) rfl ?_
  refine s_iload_n o 3 rfl dX6_worstOf_4 (q := 5) rfl ?_
  refine s_iadd o dX6_worstOf_5 (q := 6) rfl ?_
  refine s_let (fun v1_ => ?_)
  refine s_istore o [1, 2, 3, 4, 0] (lv' := [(0, rf (xG X) x0), (1, .int x1), (2, .int x2), (3, .int x3), (4, .int v1_)]) rfl dX6_worstOf_6 (by decide) (q := 8) rfl ?_
  refine s_aload_n o 0 rfl dX6_worstOf_8 (q := 9) rfl ?_
  refine s_gr o kf_X6_16 dX6_worstOf_9 (q := 12) rfl (fun a2_ => ?_)
  refine s_iload o 4 rfl dX6_worstOf_12 (q := 14) rfl ?_
  refine s_iald o dX6_worstOf_14 (q := 15) rfl (fun v3_ => ?_)
  refine s_istore o [1, 2, 3, 4, 5, 0] (lv' := [(0, rf (xG X) x0), (1, .int x1), (2, .int x2), (3, .int x3), (4, .int v1_), (5, .int v3_)]) rfl dX6_worstOf_15 (by decide) (q := 17) rfl ?_
  refine s_aload_n o 0 rfl dX6_worstOf_17 (q := 18) rfl ?_
  refine s_gr o kf_X6_19 dX6_worstOf_18 (q := 21) rfl (fun a4_ => ?_)
  refine s_iload o 4 rfl dX6_worstOf_21 (q := 23) rfl ?_
  refine s_iald o dX6_worstOf_23 (q := 24) rfl (fun v5_ => ?_)
  refine s_istore o [1, 2, 3, 4, 5, 6, 0] (lv' := [(0, rf (xG X) x0), (1, .int x1), (2, .int x2), (3, .int x3), (4, .int v1_), (5, .int v3_), (6, .int v5_)]) rfl dX6_worstOf_24 (by decide) (q := 26) rfl ?_
  refine s_iconst o dX6_worstOf_26 (v := (0 : Int32)) (by decide) (q := 27) rfl ?_
  refine s_istore o [1, 2, 3, 4, 5, 6, 7, 0] (lv' := [(0, rf (xG X) x0), (1, .int x1), (2, .int x2), (3, .int x3), (4, .int v1_), (5, .int v3_), (6, .int v5_), (7, .int (0 : Int32))]) rfl dX6_worstOf_27 (by decide) (q := 29) rfl ?_
  refine s_aload_n o 0 rfl dX6_worstOf_29 (q := 30) rfl ?_
  refine s_gr o kf_X6_32 dX6_worstOf_30 (q := 33) rfl (fun a6_ => ?_)
  refine s_bipush o dX6_worstOf_33 (v := (6 : Int32)) (by decide) (q := 35) rfl ?_
  refine s_iload_n o 1 rfl dX6_worstOf_35 (q := 36) rfl ?_
  refine s_imul o dX6_worstOf_36 (q := 37) rfl ?_
  refine s_iload_n o 2 rfl dX6_worstOf_37 (q := 38) rfl ?_
  refine s_iadd o dX6_worstOf_38 (q := 39) rfl ?_
  refine s_dup2 o rfl rfl dX6_worstOf_39 (q := 40) rfl ?_
  refine s_iald o dX6_worstOf_40 (q := 41) rfl (fun v7_ => ?_)
  refine s_iconst o dX6_worstOf_41 (v := (1 : Int32)) (by decide) (q := 42) rfl ?_
  refine s_iload_n o 3 rfl dX6_worstOf_42 (q := 43) rfl ?_
  refine s_ishl o dX6_worstOf_43 (q := 44) rfl ?_
  refine s_ior o dX6_worstOf_44 (q := 45) rfl ?_
  refine s_iast o dX6_worstOf_45 (q := 46) rfl (fun h8_ => ?_)
  refine s_iconst o dX6_worstOf_46 (v := (0 : Int32)) (by decide) (q := 47) rfl ?_
  refine s_istore o [1, 2, 3, 4, 5, 6, 7, 8, 0] (lv' := [(0, rf (xG X) x0), (1, .int x1), (2, .int x2), (3, .int x3), (4, .int v1_), (5, .int v3_), (6, .int v5_), (7, .int (0 : Int32)), (8, .int (0 : Int32))]) rfl dX6_worstOf_47 (by decide) (q := 49) rfl ?_
  exact s_sub [0, 1, 2, 3, 4, 5, 6, 7, 8] rfl (tl_X6_worstOf_49 o f f x0 x1 x2 x3 v1_ v3_ v5_ (0 : Int32) (0 : Int32) h8_)
theorem c_X6_worstOf (G : Gx) (f : Nat) (x0 : Nat) (x1 : Int32) (x2 : Int32) (x3 : Int32) (h : Hp) : z_M z_qi G yX6_worstOf cX6_worstOf 11 (some .int) 4 99 0 0 [rf G x0, .int x1, .int x2, .int x3] h (f_X6_worstOf f x0 x1 x2 x3 h) :=
  z_met (by decide +kernel) (Nat.le_of_ble_eq_true rfl) (fun X hG hn o hnm => by
    subst hG
    show Sim X (z_Zi X 0 0) 0 0 0 [(0, rf (xG X) x0), (1, .int x1), (2, .int x2), (3, .int x3)] [] h _
    exact s_sub [0, 1, 2, 3] rfl (t_X6_worstOf_0 o f x0 x1 x2 x3 h))
/-! SixMapsModel.bestCorner(II)I -/
def b_X6_bestCorner_195 (f : Nat)  (y0 : Int32) (h : Hp) : Option (Int32 × Hp) :=
  some (y0, h)
def b_X6_bestCorner_156 (f : Nat) (k44 : Nat → Int32 → Int32 → Int32 → Int32 → Int32 → Hp → Option (Int32 × Hp)) (x0 : Nat) (x1 : Int32) (x2 : Int32) (x3 : Int32) (x4 : Int32) (x5 : Int32) (h : Hp) : Option (Int32 × Hp) :=
  lt (x5 + (1 : Int32)) fun v1_ =>
  k44 x0 x1 x2 x3 x4 v1_ h
def b_X6_bestCorner_150 (f : Nat) (k44 : Nat → Int32 → Int32 → Int32 → Int32 → Int32 → Hp → Option (Int32 × Hp)) (k54 : Nat → Int32 → Int32 → Int32 → Int32 → Int32 → Int32 → Hp → Option (Int32 × Hp)) (x0 : Nat) (x1 : Int32) (x2 : Int32) (x3 : Int32) (x4 : Int32) (x5 : Int32) (x6 : Int32) (h : Hp) : Option (Int32 × Hp) :=
  lt (x6 + (1 : Int32)) fun v1_ =>
  k54 x0 x1 x2 x3 x4 x5 v1_ h
def b_X6_bestCorner_148 (f : Nat) (k44 : Nat → Int32 → Int32 → Int32 → Int32 → Int32 → Hp → Option (Int32 × Hp)) (k54 : Nat → Int32 → Int32 → Int32 → Int32 → Int32 → Int32 → Hp → Option (Int32 × Hp)) (x0 : Nat) (x1 : Int32) (x2 : Int32) (x3 : Int32) (x5 : Int32) (x6 : Int32) (y0 : Int32) (h : Hp) : Option (Int32 × Hp) :=
  b_X6_bestCorner_150 f k44 k54 x0 x1 x2 x3 y0 x5 x6 h
def b_X6_bestCorner_135 (f : Nat) (k44 : Nat → Int32 → Int32 → Int32 → Int32 → Int32 → Hp → Option (Int32 × Hp)) (k54 : Nat → Int32 → Int32 → Int32 → Int32 → Int32 → Int32 → Hp → Option (Int32 × Hp)) (x0 : Nat) (x1 : Int32) (x2 : Int32) (x4 : Int32) (x5 : Int32) (x6 : Int32) (x7 : Int32) (x8 : Int32) (y0 : Int32) (h : Hp) : Option (Int32 × Hp) :=
  if x8 = 0 then
  (b_X6_bestCorner_148 f k44 k54 x0 x1 x2 y0 x5 x6 x4 h)
  else
  (b_X6_bestCorner_148 f k44 k54 x0 x1 x2 y0 x5 x6 x7 h)
def b_X6_bestCorner_116 (f : Nat) (k44 : Nat → Int32 → Int32 → Int32 → Int32 → Int32 → Hp → Option (Int32 × Hp)) (k54 : Nat → Int32 → Int32 → Int32 → Int32 → Int32 → Int32 → Hp → Option (Int32 × Hp)) (x0 : Nat) (x1 : Int32) (x2 : Int32) (x3 : Int32) (x4 : Int32) (x5 : Int32) (x6 : Int32) (x7 : Int32) (y0 : Int32) (h : Hp) : Option (Int32 × Hp) :=
  if y0 = 0 then
  (b_X6_bestCorner_135 f k44 k54 x0 x1 x2 x4 x5 x6 x7 y0 x3 h)
  else
  (b_X6_bestCorner_135 f k44 k54 x0 x1 x2 x4 x5 x6 x7 y0 (((9 : Int32) * x5) + x6) h)
def b_X6_bestCorner_111 (f : Nat) (k44 : Nat → Int32 → Int32 → Int32 → Int32 → Int32 → Hp → Option (Int32 × Hp)) (k54 : Nat → Int32 → Int32 → Int32 → Int32 → Int32 → Int32 → Hp → Option (Int32 × Hp)) (x0 : Nat) (x1 : Int32) (x2 : Int32) (x3 : Int32) (x4 : Int32) (x5 : Int32) (x6 : Int32) (x7 : Int32) (h : Hp) : Option (Int32 × Hp) :=
  b_X6_bestCorner_116 f k44 k54 x0 x1 x2 x3 x4 x5 x6 x7 (1 : Int32) h
def b_X6_bestCorner_54 (f : Nat) (k44 : Nat → Int32 → Int32 → Int32 → Int32 → Int32 → Hp → Option (Int32 × Hp)) (k54 : Nat → Int32 → Int32 → Int32 → Int32 → Int32 → Int32 → Hp → Option (Int32 × Hp)) (x0 : Nat) (x1 : Int32) (x2 : Int32) (x3 : Int32) (x4 : Int32) (x5 : Int32) (x6 : Int32) (h : Hp) : Option (Int32 × Hp) :=
  (q_gi h x0 6 0).bind fun v1_ =>
  if v1_ ≤ x6 then
  (b_X6_bestCorner_156 f k44 x0 x1 x2 x3 x4 x5 h)
  else
  (if x5 = x1 then
  (b_X6_bestCorner_156 f k44 x0 x1 x2 x3 x4 x5 h)
  else
  ((q_gr h x0 6 11).bind fun a2_ =>
  (q_ai h a2_ 9 (((6 : Int32) * x1) + x5)).bind fun v3_ =>
  bi (f_X6_has f v3_ x6 h) fun v5_ h4_ =>
  if ¬ v5_ = 0 then
  (b_X6_bestCorner_150 f k44 k54 x0 x1 x2 x3 x4 x5 x6 h4_)
  else
  (q_on h4_ x0 6 (
  bi (f_X6_worstOf f x0 x1 x5 x6 h4_) fun v8_ h7_ =>
  if x3 < 0 then
  (b_X6_bestCorner_111 f k44 k54 x0 x1 x2 x3 x4 x5 x6 v8_ h7_)
  else
  (if x4 ≤ v8_ then
  (b_X6_bestCorner_116 f k44 k54 x0 x1 x2 x3 x4 x5 x6 v8_ (0 : Int32) h7_)
  else
  (b_X6_bestCorner_111 f k44 k54 x0 x1 x2 x3 x4 x5 x6 v8_ h7_))))))
def l_X6_bestCorner_54 (f : Nat) (k44 : Nat → Int32 → Int32 → Int32 → Int32 → Int32 → Hp → Option (Int32 × Hp)) : Nat → Nat → Int32 → Int32 → Int32 → Int32 → Int32 → Int32 → Hp → Option (Int32 × Hp)
  | 0, _, _, _, _, _, _, _, _ => none
  | n + 1, x0, x1, x2, x3, x4, x5, x6, h => b_X6_bestCorner_54 f k44 (l_X6_bestCorner_54 f k44 n) x0 x1 x2 x3 x4 x5 x6 h
def b_X6_bestCorner_44 (f : Nat) (k44 : Nat → Int32 → Int32 → Int32 → Int32 → Int32 → Hp → Option (Int32 × Hp)) (x0 : Nat) (x1 : Int32) (x2 : Int32) (x3 : Int32) (x4 : Int32) (x5 : Int32) (h : Hp) : Option (Int32 × Hp) :=
  if (6 : Int32) ≤ x5 then
  (if 0 ≤ x3 then
  (if ¬ x2 = 0 then
  (if ¬ x2 = (1 : Int32) then
  (b_X6_bestCorner_195 f x4 h)
  else
  (q_nz (9 : Int32) (
  b_X6_bestCorner_195 f (x3 - x3 / (9 : Int32) * (9 : Int32)) h)))
  else
  (q_nz (9 : Int32) (
  b_X6_bestCorner_195 f (x3 / (9 : Int32)) h)))
  else
  (b_X6_bestCorner_195 f (-1 : Int32) h))
  else
  (l_X6_bestCorner_54 f k44 f x0 x1 x2 x3 x4 x5 (0 : Int32) h)
def l_X6_bestCorner_44 (f : Nat)  : Nat → Nat → Int32 → Int32 → Int32 → Int32 → Int32 → Hp → Option (Int32 × Hp)
  | 0, _, _, _, _, _, _, _ => none
  | n + 1, x0, x1, x2, x3, x4, x5, h => b_X6_bestCorner_44 f  (l_X6_bestCorner_44 f  n) x0 x1 x2 x3 x4 x5 h
def f_X6_bestCorner (f : Nat)  (x0 : Nat) (x1 : Int32) (x2 : Int32) (h : Hp) : Option (Int32 × Hp) :=
  bi (f_X6_isBand f x1 h) fun v2_ h1_ =>
  if ¬ v2_ = 0 then
  (bi (f_X6_in f x2.toInt64 (0 : Int64) (2 : Int64) h1_) fun v4_ h3_ =>
  if ¬ v4_ = 0 then
  (q_on h3_ x0 6 (
  bi (f_X6_mayMany f x0 x1 h3_) fun v7_ h6_ =>
  if ¬ v7_ = 0 then
  (l_X6_bestCorner_44 f f x0 x1 x2 (-1 : Int32) (0 : Int32) (0 : Int32) h6_)
  else
  (some ((-1 : Int32), h6_))))
  else
  (some ((-1000002 : Int32), h3_)))
  else
  (some ((-1000001 : Int32), h1_))
set_option maxRecDepth 20000 in
theorem t_X6_bestCorner_195 {X : Cx} (o : Ok X RX6 cX6_bestCorner 9 5 129 0 0 (some .int)) (f : Nat)  (y0 : Int32) (h : Hp) : Sim X (z_Zi X 0 0) 0 0 195 [] [.int y0] h (b_X6_bestCorner_195 f y0 h) := by
  unfold b_X6_bestCorner_195
  exact s_iret o dX6_bestCorner_195
set_option maxRecDepth 20000 in
theorem t_X6_bestCorner_156 {X : Cx} (o : Ok X RX6 cX6_bestCorner 9 5 129 0 0 (some .int)) (f : Nat) {k44 : Nat → Int32 → Int32 → Int32 → Int32 → Int32 → Hp → Option (Int32 × Hp)} (hk44 : ∀ (x0 : Nat) (x1 : Int32) (x2 : Int32) (x3 : Int32) (x4 : Int32) (x5 : Int32) (h : Hp), Sim X (z_Zi X 0 0) 0 0 44 [(0, rf (xG X) x0), (1, .int x1), (2, .int x2), (3, .int x3), (4, .int x4), (5, .int x5)] [] h (k44 x0 x1 x2 x3 x4 x5 h)) (x0 : Nat) (x1 : Int32) (x2 : Int32) (x3 : Int32) (x4 : Int32) (x5 : Int32) (h : Hp) : Sim X (z_Zi X 0 0) 0 0 156 [(0, rf (xG X) x0), (1, .int x1), (2, .int x2), (3, .int x3), (4, .int x4), (5, .int x5)] [] h (b_X6_bestCorner_156 f k44 x0 x1 x2 x3 x4 x5 h) := by
  unfold b_X6_bestCorner_156
  refine s_iinc o 5 rfl (v := (1 : Int32)) (by decide) [1, 2, 3, 4, 5, 0] (lv' := fun v1_ => [(0, rf (xG X) x0), (1, .int x1), (2, .int x2), (3, .int x3), (4, .int x4), (5, .int v1_)]) (fun _ => rfl) dX6_bestCorner_156 (by decide) (q := 159) rfl (fun v1_ => ?_)
  refine s_goto o (tgt := 44) dX6_bestCorner_159 (by decide) ?_
  exact s_sub [0, 1, 2, 3, 4, 5] rfl (hk44 x0 x1 x2 x3 x4 v1_ h)
set_option maxRecDepth 20000 in
theorem t_X6_bestCorner_150 {X : Cx} (o : Ok X RX6 cX6_bestCorner 9 5 129 0 0 (some .int)) (f : Nat) {k44 : Nat → Int32 → Int32 → Int32 → Int32 → Int32 → Hp → Option (Int32 × Hp)} (hk44 : ∀ (x0 : Nat) (x1 : Int32) (x2 : Int32) (x3 : Int32) (x4 : Int32) (x5 : Int32) (h : Hp), Sim X (z_Zi X 0 0) 0 0 44 [(0, rf (xG X) x0), (1, .int x1), (2, .int x2), (3, .int x3), (4, .int x4), (5, .int x5)] [] h (k44 x0 x1 x2 x3 x4 x5 h)) {k54 : Nat → Int32 → Int32 → Int32 → Int32 → Int32 → Int32 → Hp → Option (Int32 × Hp)} (hk54 : ∀ (x0 : Nat) (x1 : Int32) (x2 : Int32) (x3 : Int32) (x4 : Int32) (x5 : Int32) (x6 : Int32) (h : Hp), Sim X (z_Zi X 0 0) 0 0 54 [(0, rf (xG X) x0), (1, .int x1), (2, .int x2), (3, .int x3), (4, .int x4), (5, .int x5), (6, .int x6)] [] h (k54 x0 x1 x2 x3 x4 x5 x6 h)) (x0 : Nat) (x1 : Int32) (x2 : Int32) (x3 : Int32) (x4 : Int32) (x5 : Int32) (x6 : Int32) (h : Hp) : Sim X (z_Zi X 0 0) 0 0 150 [(0, rf (xG X) x0), (1, .int x1), (2, .int x2), (3, .int x3), (4, .int x4), (5, .int x5), (6, .int x6)] [] h (b_X6_bestCorner_150 f k44 k54 x0 x1 x2 x3 x4 x5 x6 h) := by
  unfold b_X6_bestCorner_150
  refine s_iinc o 6 rfl (v := (1 : Int32)) (by decide) [1, 2, 3, 4, 5, 6, 0] (lv' := fun v1_ => [(0, rf (xG X) x0), (1, .int x1), (2, .int x2), (3, .int x3), (4, .int x4), (5, .int x5), (6, .int v1_)]) (fun _ => rfl) dX6_bestCorner_150 (by decide) (q := 153) rfl (fun v1_ => ?_)
  refine s_goto o (tgt := 54) dX6_bestCorner_153 (by decide) ?_
  exact s_sub [0, 1, 2, 3, 4, 5, 6] rfl (hk54 x0 x1 x2 x3 x4 x5 v1_ h)
set_option maxRecDepth 20000 in
theorem t_X6_bestCorner_148 {X : Cx} (o : Ok X RX6 cX6_bestCorner 9 5 129 0 0 (some .int)) (f : Nat) {k44 : Nat → Int32 → Int32 → Int32 → Int32 → Int32 → Hp → Option (Int32 × Hp)} (hk44 : ∀ (x0 : Nat) (x1 : Int32) (x2 : Int32) (x3 : Int32) (x4 : Int32) (x5 : Int32) (h : Hp), Sim X (z_Zi X 0 0) 0 0 44 [(0, rf (xG X) x0), (1, .int x1), (2, .int x2), (3, .int x3), (4, .int x4), (5, .int x5)] [] h (k44 x0 x1 x2 x3 x4 x5 h)) {k54 : Nat → Int32 → Int32 → Int32 → Int32 → Int32 → Int32 → Hp → Option (Int32 × Hp)} (hk54 : ∀ (x0 : Nat) (x1 : Int32) (x2 : Int32) (x3 : Int32) (x4 : Int32) (x5 : Int32) (x6 : Int32) (h : Hp), Sim X (z_Zi X 0 0) 0 0 54 [(0, rf (xG X) x0), (1, .int x1), (2, .int x2), (3, .int x3), (4, .int x4), (5, .int x5), (6, .int x6)] [] h (k54 x0 x1 x2 x3 x4 x5 x6 h)) (x0 : Nat) (x1 : Int32) (x2 : Int32) (x3 : Int32) (x5 : Int32) (x6 : Int32) (y0 : Int32) (h : Hp) : Sim X (z_Zi X 0 0) 0 0 148 [(0, rf (xG X) x0), (1, .int x1), (2, .int x2), (3, .int x3), (5, .int x5), (6, .int x6)] [.int y0] h (b_X6_bestCorner_148 f k44 k54 x0 x1 x2 x3 x5 x6 y0 h) := by
  unfold b_X6_bestCorner_148
  refine s_istore o [1, 2, 3, 4, 0, 5, 6] (lv' := [(0, rf (xG X) x0), (1, .int x1), (2, .int x2), (3, .int x3), (4, .int y0), (5, .int x5), (6, .int x6)]) rfl dX6_bestCorner_148 (by decide) (q := 150) rfl ?_
  exact s_sub [0, 1, 2, 3, 4, 5, 6] rfl (t_X6_bestCorner_150 o f hk44 hk54 x0 x1 x2 x3 y0 x5 x6 h)
set_option maxRecDepth 20000 in
theorem t_X6_bestCorner_135 {X : Cx} (o : Ok X RX6 cX6_bestCorner 9 5 129 0 0 (some .int)) (f : Nat) {k44 : Nat → Int32 → Int32 → Int32 → Int32 → Int32 → Hp → Option (Int32 × Hp)} (hk44 : ∀ (x0 : Nat) (x1 : Int32) (x2 : Int32) (x3 : Int32) (x4 : Int32) (x5 : Int32) (h : Hp), Sim X (z_Zi X 0 0) 0 0 44 [(0, rf (xG X) x0), (1, .int x1), (2, .int x2), (3, .int x3), (4, .int x4), (5, .int x5)] [] h (k44 x0 x1 x2 x3 x4 x5 h)) {k54 : Nat → Int32 → Int32 → Int32 → Int32 → Int32 → Int32 → Hp → Option (Int32 × Hp)} (hk54 : ∀ (x0 : Nat) (x1 : Int32) (x2 : Int32) (x3 : Int32) (x4 : Int32) (x5 : Int32) (x6 : Int32) (h : Hp), Sim X (z_Zi X 0 0) 0 0 54 [(0, rf (xG X) x0), (1, .int x1), (2, .int x2), (3, .int x3), (4, .int x4), (5, .int x5), (6, .int x6)] [] h (k54 x0 x1 x2 x3 x4 x5 x6 h)) (x0 : Nat) (x1 : Int32) (x2 : Int32) (x4 : Int32) (x5 : Int32) (x6 : Int32) (x7 : Int32) (x8 : Int32) (y0 : Int32) (h : Hp) : Sim X (z_Zi X 0 0) 0 0 135 [(0, rf (xG X) x0), (1, .int x1), (2, .int x2), (4, .int x4), (5, .int x5), (6, .int x6), (7, .int x7), (8, .int x8)] [.int y0] h (b_X6_bestCorner_135 f k44 k54 x0 x1 x2 x4 x5 x6 x7 x8 y0 h) := by
  unfold b_X6_bestCorner_135
  refine s_istore_n o [1, 2, 3, 0, 4, 5, 6, 7, 8] (lv' := [(0, rf (xG X) x0), (1, .int x1), (2, .int x2), (3, .int y0), (4, .int x4), (5, .int x5), (6, .int x6), (7, .int x7), (8, .int x8)]) rfl dX6_bestCorner_135 (by decide) (q := 136) rfl ?_
  refine s_iload o 8 rfl dX6_bestCorner_136 (q := 138) rfl ?_
  refine s_if_eq o (tgt := 146) dX6_bestCorner_138 (by decide) (q := 141) rfl ?_ ?_
  · refine s_iload o 4 rfl dX6_bestCorner_146 (q := 148) rfl ?_
    exact s_sub [0, 1, 2, 3, 5, 6] rfl (t_X6_bestCorner_148 o f hk44 hk54 x0 x1 x2 y0 x5 x6 x4 h)
  · refine s_iload o 7 rfl dX6_bestCorner_141 (q := 143) rfl ?_
    refine s_goto o (tgt := 148) dX6_bestCorner_143 (by decide) ?_
    exact s_sub [0, 1, 2, 3, 5, 6] rfl (t_X6_bestCorner_148 o f hk44 hk54 x0 x1 x2 y0 x5 x6 x7 h)
set_option maxRecDepth 20000 in
theorem t_X6_bestCorner_116 {X : Cx} (o : Ok X RX6 cX6_bestCorner 9 5 129 0 0 (some .int)) (f : Nat) {k44 : Nat → Int32 → Int32 → Int32 → Int32 → Int32 → Hp → Option (Int32 × Hp)} (hk44 : ∀ (x0 : Nat) (x1 : Int32) (x2 : Int32) (x3 : Int32) (x4 : Int32) (x5 : Int32) (h : Hp), Sim X (z_Zi X 0 0) 0 0 44 [(0, rf (xG X) x0), (1, .int x1), (2, .int x2), (3, .int x3), (4, .int x4), (5, .int x5)] [] h (k44 x0 x1 x2 x3 x4 x5 h)) {k54 : Nat → Int32 → Int32 → Int32 → Int32 → Int32 → Int32 → Hp → Option (Int32 × Hp)} (hk54 : ∀ (x0 : Nat) (x1 : Int32) (x2 : Int32) (x3 : Int32) (x4 : Int32) (x5 : Int32) (x6 : Int32) (h : Hp), Sim X (z_Zi X 0 0) 0 0 54 [(0, rf (xG X) x0), (1, .int x1), (2, .int x2), (3, .int x3), (4, .int x4), (5, .int x5), (6, .int x6)] [] h (k54 x0 x1 x2 x3 x4 x5 x6 h)) (x0 : Nat) (x1 : Int32) (x2 : Int32) (x3 : Int32) (x4 : Int32) (x5 : Int32) (x6 : Int32) (x7 : Int32) (y0 : Int32) (h : Hp) : Sim X (z_Zi X 0 0) 0 0 116 [(0, rf (xG X) x0), (1, .int x1), (2, .int x2), (3, .int x3), (4, .int x4), (5, .int x5), (6, .int x6), (7, .int x7)] [.int y0] h (b_X6_bestCorner_116 f k44 k54 x0 x1 x2 x3 x4 x5 x6 x7 y0 h) := by
  unfold b_X6_bestCorner_116
  refine s_istore o [1, 2, 3, 4, 5, 6, 7, 8, 0] (lv' := [(0, rf (xG X) x0), (1, .int x1), (2, .int x2), (3, .int x3), (4, .int x4), (5, .int x5), (6, .int x6), (7, .int x7), (8, .int y0)]) rfl dX6_bestCorner_116 (by decide) (q := 118) rfl ?_
  refine s_iload o 8 rfl dX6_bestCorner_118 (q := 120) rfl ?_
  refine s_if_eq o (tgt := 134) dX6_bestCorner_120 (by decide) (q := 123) rfl ?_ ?_
  · refine s_iload_n o 3 rfl dX6_bestCorner_134 (q := 135) rfl ?_
    exact s_sub [0, 1, 2, 4, 5, 6, 7, 8] rfl (t_X6_bestCorner_135 o f hk44 hk54 x0 x1 x2 x4 x5 x6 x7 y0 x3 h)
  · refine s_bipush o dX6_bestCorner_123 (v := (9 : Int32)) (by decide) (q := 125) rfl ?_
    refine s_iload o 5 rfl dX6_bestCorner_125 (q := 127) rfl ?_
    refine s_imul o dX6_bestCorner_127 (q := 128) rfl ?_
    refine s_iload o 6 rfl dX6_bestCorner_128 (q := 130) rfl ?_
    refine s_iadd o dX6_bestCorner_130 (q := 131) rfl ?_
    refine s_goto o (tgt := 135) dX6_bestCorner_131 (by decide) ?_
    exact s_sub [0, 1, 2, 4, 5, 6, 7, 8] rfl (t_X6_bestCorner_135 o f hk44 hk54 x0 x1 x2 x4 x5 x6 x7 y0 (((9 : Int32) * x5) + x6) h)
set_option maxRecDepth 20000 in
theorem t_X6_bestCorner_111 {X : Cx} (o : Ok X RX6 cX6_bestCorner 9 5 129 0 0 (some .int)) (f : Nat) {k44 : Nat → Int32 → Int32 → Int32 → Int32 → Int32 → Hp → Option (Int32 × Hp)} (hk44 : ∀ (x0 : Nat) (x1 : Int32) (x2 : Int32) (x3 : Int32) (x4 : Int32) (x5 : Int32) (h : Hp), Sim X (z_Zi X 0 0) 0 0 44 [(0, rf (xG X) x0), (1, .int x1), (2, .int x2), (3, .int x3), (4, .int x4), (5, .int x5)] [] h (k44 x0 x1 x2 x3 x4 x5 h)) {k54 : Nat → Int32 → Int32 → Int32 → Int32 → Int32 → Int32 → Hp → Option (Int32 × Hp)} (hk54 : ∀ (x0 : Nat) (x1 : Int32) (x2 : Int32) (x3 : Int32) (x4 : Int32) (x5 : Int32) (x6 : Int32) (h : Hp), Sim X (z_Zi X 0 0) 0 0 54 [(0, rf (xG X) x0), (1, .int x1), (2, .int x2), (3, .int x3), (4, .int x4), (5, .int x5), (6, .int x6)] [] h (k54 x0 x1 x2 x3 x4 x5 x6 h)) (x0 : Nat) (x1 : Int32) (x2 : Int32) (x3 : Int32) (x4 : Int32) (x5 : Int32) (x6 : Int32) (x7 : Int32) (h : Hp) : Sim X (z_Zi X 0 0) 0 0 111 [(0, rf (xG X) x0), (1, .int x1), (2, .int x2), (3, .int x3), (4, .int x4), (5, .int x5), (6, .int x6), (7, .int x7)] [] h (b_X6_bestCorner_111 f k44 k54 x0 x1 x2 x3 x4 x5 x6 x7 h) := by
  unfold b_X6_bestCorner_111
  refine s_iconst o dX6_bestCorner_111 (v := (1 : Int32)) (by decide) (q := 112) rfl ?_
  refine s_goto o (tgt := 116) dX6_bestCorner_112 (by decide) ?_
  exact s_sub [0, 1, 2, 3, 4, 5, 6, 7] rfl (t_X6_bestCorner_116 o f hk44 hk54 x0 x1 x2 x3 x4 x5 x6 x7 (1 : Int32) h)
set_option maxRecDepth 20000 in
theorem t_X6_bestCorner_54 {X : Cx} (o : Ok X RX6 cX6_bestCorner 9 5 129 0 0 (some .int)) (f : Nat) {k44 : Nat → Int32 → Int32 → Int32 → Int32 → Int32 → Hp → Option (Int32 × Hp)} (hk44 : ∀ (x0 : Nat) (x1 : Int32) (x2 : Int32) (x3 : Int32) (x4 : Int32) (x5 : Int32) (h : Hp), Sim X (z_Zi X 0 0) 0 0 44 [(0, rf (xG X) x0), (1, .int x1), (2, .int x2), (3, .int x3), (4, .int x4), (5, .int x5)] [] h (k44 x0 x1 x2 x3 x4 x5 h)) {k54 : Nat → Int32 → Int32 → Int32 → Int32 → Int32 → Int32 → Hp → Option (Int32 × Hp)} (hk54 : ∀ (x0 : Nat) (x1 : Int32) (x2 : Int32) (x3 : Int32) (x4 : Int32) (x5 : Int32) (x6 : Int32) (h : Hp), Sim X (z_Zi X 0 0) 0 0 54 [(0, rf (xG X) x0), (1, .int x1), (2, .int x2), (3, .int x3), (4, .int x4), (5, .int x5), (6, .int x6)] [] h (k54 x0 x1 x2 x3 x4 x5 x6 h)) (x0 : Nat) (x1 : Int32) (x2 : Int32) (x3 : Int32) (x4 : Int32) (x5 : Int32) (x6 : Int32) (h : Hp) : Sim X (z_Zi X 0 0) 0 0 54 [(0, rf (xG X) x0), (1, .int x1), (2, .int x2), (3, .int x3), (4, .int x4), (5, .int x5), (6, .int x6)] [] h (b_X6_bestCorner_54 f k44 k54 x0 x1 x2 x3 x4 x5 x6 h) := by
  unfold b_X6_bestCorner_54
  refine s_iload o 6 rfl dX6_bestCorner_54 (q := 56) rfl ?_
  refine s_aload_n o 0 rfl dX6_bestCorner_56 (q := 57) rfl ?_
  refine s_gi o kf_X6_111 dX6_bestCorner_57 (q := 60) rfl (fun v1_ => ?_)
  refine s_ic_ge o (tgt := 156) dX6_bestCorner_60 (by decide) (q := 63) rfl ?_ ?_
  · exact s_sub [0, 1, 2, 3, 4, 5] rfl (t_X6_bestCorner_156 o f hk44 x0 x1 x2 x3 x4 x5 h)
  · refine s_iload o 5 rfl dX6_bestCorner_63 (q := 65) rfl ?_
    refine s_iload_n o 1 rfl dX6_bestCorner_65 (q := 66) rfl ?_
    refine s_ic_eq o (tgt := 156) dX6_bestCorner_66 (by decide) (q := 69) rfl ?_ ?_
    · exact s_sub [0, 1, 2, 3, 4, 5] rfl (t_X6_bestCorner_156 o f hk44 x0 x1 x2 x3 x4 x5 h)
    · refine s_aload_n o 0 rfl dX6_bestCorner_69 (q := 70) rfl ?_
      refine s_gr o kf_X6_32 dX6_bestCorner_70 (q := 73) rfl (fun a2_ => ?_)
      refine s_bipush o dX6_bestCorner_73 (v := (6 : Int32)) (by decide) (q := 75) rfl ?_
      refine s_iload_n o 1 rfl dX6_bestCorner_75 (q := 76) rfl ?_
      refine s_imul o dX6_bestCorner_76 (q := 77) rfl ?_
      refine s_iload o 5 rfl dX6_bestCorner_77 (q := 79) rfl ?_
      refine s_iadd o dX6_bestCorner_79 (q := 80) rfl ?_
      refine s_iald o dX6_bestCorner_80 (q := 81) rfl (fun v3_ => ?_)
      refine s_iload o 6 rfl dX6_bestCorner_81 (q := 83) rfl ?_
      refine s_bi (fun r0 hr0 => runS o cs_X6_182 (c_X6_has (xG X) f v3_ x6 h (xl X) r0 hr0) ⟨Nat.le_of_ble_eq_true rfl, Nat.le_of_ble_eq_true rfl⟩ rfl rfl (Nat.le_of_ble_eq_true rfl) dX6_bestCorner_83 ⟨Nat.le_of_ble_eq_true rfl, Nat.le_of_ble_eq_true rfl⟩) (q := 86) rfl (cs' := 0) rfl (sl' := 0) rfl (fun v5_ h4_ => ?_)
      refine s_if_ne o (tgt := 150) dX6_bestCorner_86 (by decide) (q := 89) rfl ?_ ?_
      · exact s_sub [0, 1, 2, 3, 4, 5, 6] rfl (t_X6_bestCorner_150 o f hk44 hk54 x0 x1 x2 x3 x4 x5 x6 h4_)
      · refine s_aload_n o 0 rfl dX6_bestCorner_89 (q := 90) rfl ?_
        refine s_iload_n o 1 rfl dX6_bestCorner_90 (q := 91) rfl ?_
        refine s_iload o 5 rfl dX6_bestCorner_91 (q := 93) rfl ?_
        refine s_iload o 6 rfl dX6_bestCorner_93 (q := 95) rfl ?_
        refine s_on (fun hk6_ => ?_)
        refine s_bi (fun r0 hr0 => runV o hk6_ cv_X6_354 (c_X6_worstOf (xG X) f x0 x1 x5 x6 h4_ (xl X) r0 hr0) ⟨Nat.le_of_ble_eq_true rfl, Nat.le_of_ble_eq_true rfl⟩ rfl rfl (Nat.le_of_ble_eq_true rfl) dX6_bestCorner_95 ⟨Nat.le_of_ble_eq_true rfl, Nat.le_of_ble_eq_true rfl⟩) (q := 98) rfl (cs' := 0) rfl (sl' := 0) rfl (fun v8_ h7_ => ?_)
        refine s_istore o [1, 2, 3, 4, 5, 6, 7, 0] (lv' := [(0, rf (xG X) x0), (1, .int x1), (2, .int x2), (3, .int x3), (4, .int x4), (5, .int x5), (6, .int x6), (7, .int v8_)]) rfl dX6_bestCorner_98 (by decide) (q := 100) rfl ?_
        refine s_iload_n o 3 rfl dX6_bestCorner_100 (q := 101) rfl ?_
        refine s_if_lt o (tgt := 111) dX6_bestCorner_101 (by decide) (q := 104) rfl ?_ ?_
        · exact s_sub [0, 1, 2, 3, 4, 5, 6, 7] rfl (t_X6_bestCorner_111 o f hk44 hk54 x0 x1 x2 x3 x4 x5 x6 v8_ h7_)
        · refine s_iload o 7 rfl dX6_bestCorner_104 (q := 106) rfl ?_
          refine s_iload o 4 rfl dX6_bestCorner_106 (q := 108) rfl ?_
          refine s_ic_ge o (tgt := 115) dX6_bestCorner_108 (by decide) (q := 111) rfl ?_ ?_
          · refine s_iconst o dX6_bestCorner_115 (v := (0 : Int32)) (by decide) (q := 116) rfl ?_
            exact s_sub [0, 1, 2, 3, 4, 5, 6, 7] rfl (t_X6_bestCorner_116 o f hk44 hk54 x0 x1 x2 x3 x4 x5 x6 v8_ (0 : Int32) h7_)
          · exact s_sub [0, 1, 2, 3, 4, 5, 6, 7] rfl (t_X6_bestCorner_111 o f hk44 hk54 x0 x1 x2 x3 x4 x5 x6 v8_ h7_)
theorem tl_X6_bestCorner_54 {X : Cx} (o : Ok X RX6 cX6_bestCorner 9 5 129 0 0 (some .int)) (f : Nat) {k44 : Nat → Int32 → Int32 → Int32 → Int32 → Int32 → Hp → Option (Int32 × Hp)} (hk44 : ∀ (x0 : Nat) (x1 : Int32) (x2 : Int32) (x3 : Int32) (x4 : Int32) (x5 : Int32) (h : Hp), Sim X (z_Zi X 0 0) 0 0 44 [(0, rf (xG X) x0), (1, .int x1), (2, .int x2), (3, .int x3), (4, .int x4), (5, .int x5)] [] h (k44 x0 x1 x2 x3 x4 x5 h)) : ∀ (n : Nat) (x0 : Nat) (x1 : Int32) (x2 : Int32) (x3 : Int32) (x4 : Int32) (x5 : Int32) (x6 : Int32) (h : Hp), Sim X (z_Zi X 0 0) 0 0 54 [(0, rf (xG X) x0), (1, .int x1), (2, .int x2), (3, .int x3), (4, .int x4), (5, .int x5), (6, .int x6)] [] h (l_X6_bestCorner_54 f k44 n x0 x1 x2 x3 x4 x5 x6 h) := by
  intro n
  induction n with
  | zero => intro x0 x1 x2 x3 x4 x5 x6 h; exact s_none
  | succ n ih => intro x0 x1 x2 x3 x4 x5 x6 h; exact t_X6_bestCorner_54 o f hk44 ih x0 x1 x2 x3 x4 x5 x6 h
set_option maxRecDepth 20000 in
theorem t_X6_bestCorner_44 {X : Cx} (o : Ok X RX6 cX6_bestCorner 9 5 129 0 0 (some .int)) (f : Nat) {k44 : Nat → Int32 → Int32 → Int32 → Int32 → Int32 → Hp → Option (Int32 × Hp)} (hk44 : ∀ (x0 : Nat) (x1 : Int32) (x2 : Int32) (x3 : Int32) (x4 : Int32) (x5 : Int32) (h : Hp), Sim X (z_Zi X 0 0) 0 0 44 [(0, rf (xG X) x0), (1, .int x1), (2, .int x2), (3, .int x3), (4, .int x4), (5, .int x5)] [] h (k44 x0 x1 x2 x3 x4 x5 h)) (x0 : Nat) (x1 : Int32) (x2 : Int32) (x3 : Int32) (x4 : Int32) (x5 : Int32) (h : Hp) : Sim X (z_Zi X 0 0) 0 0 44 [(0, rf (xG X) x0), (1, .int x1), (2, .int x2), (3, .int x3), (4, .int x4), (5, .int x5)] [] h (b_X6_bestCorner_44 f k44 x0 x1 x2 x3 x4 x5 h) := by
  unfold b_X6_bestCorner_44
  refine s_iload o 5 rfl dX6_bestCorner_44 (q := 46) rfl ?_
  refine s_bipush o dX6_bestCorner_46 (v := (6 : Int32)) (by decide) (q := 48) rfl ?_
  refine s_ic_ge o (tgt := 162) dX6_bestCorner_48 (by decide) (q := 51) rfl ?_ ?_
  · refine s_iload_n o 3 rfl dX6_bestCorner_162 (q := 163) rfl ?_
    refine s_if_ge o (tgt := 170) dX6_bestCorner_163 (by decide) (q := 166) rfl ?_ ?_
    · refine s_iload_n o 2 rfl dX6_bestCorner_170 (q := 171) rfl ?_
      refine s_if_ne o (tgt := 181) dX6_bestCorner_171 (by decide) (q := 174) rfl ?_ ?_
      · refine s_iload_n o 2 rfl dX6_bestCorner_181 (q := 182) rfl ?_
        refine s_iconst o dX6_bestCorner_182 (v := (1 : Int32)) (by decide) (q := 183) rfl ?_
        refine s_ic_ne o (tgt := 193) dX6_bestCorner_183 (by decide) (q := 186) rfl ?_ ?_
        · refine s_iload o 4 rfl dX6_bestCorner_193 (q := 195) rfl ?_
          exact s_sub [] rfl (t_X6_bestCorner_195 o f x4 h)
        · refine s_iload_n o 3 rfl dX6_bestCorner_186 (q := 187) rfl ?_
          refine s_bipush o dX6_bestCorner_187 (v := (9 : Int32)) (by decide) (q := 189) rfl ?_
          refine s_irem o dX6_bestCorner_189 (q := 190) rfl ?_
          refine s_goto o (tgt := 195) dX6_bestCorner_190 (by decide) ?_
          exact s_sub [] rfl (t_X6_bestCorner_195 o f (x3 - x3 / (9 : Int32) * (9 : Int32)) h)
      · refine s_iload_n o 3 rfl dX6_bestCorner_174 (q := 175) rfl ?_
        refine s_bipush o dX6_bestCorner_175 (v := (9 : Int32)) (by decide) (q := 177) rfl ?_
        refine s_idiv o dX6_bestCorner_177 (q := 178) rfl ?_
        refine s_goto o (tgt := 195) dX6_bestCorner_178 (by decide) ?_
        exact s_sub [] rfl (t_X6_bestCorner_195 o f (x3 / (9 : Int32)) h)
    · refine s_iconst o dX6_bestCorner_166 (v := (-1 : Int32)) (by decide) (q := 167) rfl ?_
      refine s_goto o (tgt := 195) dX6_bestCorner_167 (by decide) ?_
      exact s_sub [] rfl (t_X6_bestCorner_195 o f (-1 : Int32) h)
  · refine s_iconst o dX6_bestCorner_51 (v := (0 : Int32)) (by decide) (q := 52) rfl ?_
    refine s_istore o [1, 2, 3, 4, 5, 6, 0] (lv' := [(0, rf (xG X) x0), (1, .int x1), (2, .int x2), (3, .int x3), (4, .int x4), (5, .int x5), (6, .int (0 : Int32))]) rfl dX6_bestCorner_52 (by decide) (q := 54) rfl ?_
    exact s_sub [0, 1, 2, 3, 4, 5, 6] rfl (tl_X6_bestCorner_54 o f hk44 f x0 x1 x2 x3 x4 x5 (0 : Int32) h)
theorem tl_X6_bestCorner_44 {X : Cx} (o : Ok X RX6 cX6_bestCorner 9 5 129 0 0 (some .int)) (f : Nat)  : ∀ (n : Nat) (x0 : Nat) (x1 : Int32) (x2 : Int32) (x3 : Int32) (x4 : Int32) (x5 : Int32) (h : Hp), Sim X (z_Zi X 0 0) 0 0 44 [(0, rf (xG X) x0), (1, .int x1), (2, .int x2), (3, .int x3), (4, .int x4), (5, .int x5)] [] h (l_X6_bestCorner_44 f n x0 x1 x2 x3 x4 x5 h) := by
  intro n
  induction n with
  | zero => intro x0 x1 x2 x3 x4 x5 h; exact s_none
  | succ n ih => intro x0 x1 x2 x3 x4 x5 h; exact t_X6_bestCorner_44 o f  ih x0 x1 x2 x3 x4 x5 h
set_option maxRecDepth 20000 in
theorem t_X6_bestCorner_0 {X : Cx} (o : Ok X RX6 cX6_bestCorner 9 5 129 0 0 (some .int)) (f : Nat)  (x0 : Nat) (x1 : Int32) (x2 : Int32) (h : Hp) : Sim X (z_Zi X 0 0) 0 0 0 [(0, rf (xG X) x0), (1, .int x1), (2, .int x2)] [] h (f_X6_bestCorner f x0 x1 x2 h) := by
  unfold f_X6_bestCorner
  refine s_iload_n o 1 rfl dX6_bestCorner_0 (q := 1) rfl ?_
  refine s_bi (fun r0 hr0 => runS o cs_X6_267 (c_X6_isBand (xG X) f x1 h (xl X) r0 hr0) ⟨Nat.le_of_ble_eq_true rfl, Nat.le_of_ble_eq_true rfl⟩ rfl rfl (Nat.le_of_ble_eq_true rfl) dX6_bestCorner_1 ⟨Nat.le_of_ble_eq_true rfl, Nat.le_of_ble_eq_true rfl⟩) (q := 4) rfl (cs' := 0) rfl (sl' := 0) rfl (fun v2_ h1_ => ?_)
  refine s_if_ne o (tgt := 11) dX6_bestCorner_4 (by decide) (q := 7) rfl ?_ ?_
  · refine s_iload_n o 2 rfl dX6_bestCorner_11 (q := 12) rfl ?_
    refine s_i2l o dX6_bestCorner_12 (q := 13) rfl ?_
    refine s_lconst o dX6_bestCorner_13 (v := (0 : Int64)) (by decide) (q := 14) rfl ?_
    refine s_ldc2 o kl_X6_357 dX6_bestCorner_14 (q := 17) rfl ?_
    refine s_bi (fun r0 hr0 => runS o cs_X6_114 (c_X6_in (xG X) f x2.toInt64 (0 : Int64) (2 : Int64) h1_ (xl X) r0 hr0) ⟨Nat.le_of_ble_eq_true rfl, Nat.le_of_ble_eq_true rfl⟩ rfl rfl (Nat.le_of_ble_eq_true rfl) dX6_bestCorner_17 ⟨Nat.le_of_ble_eq_true rfl, Nat.le_of_ble_eq_true rfl⟩) (q := 20) rfl (cs' := 0) rfl (sl' := 0) rfl (fun v4_ h3_ => ?_)
    refine s_if_ne o (tgt := 26) dX6_bestCorner_20 (by decide) (q := 23) rfl ?_ ?_
    · refine s_aload_n o 0 rfl dX6_bestCorner_26 (q := 27) rfl ?_
      refine s_iload_n o 1 rfl dX6_bestCorner_27 (q := 28) rfl ?_
      refine s_on (fun hk5_ => ?_)
      refine s_bi (fun r0 hr0 => runV o hk5_ cv_X6_330 (c_X6_mayMany (xG X) f x0 x1 h3_ (xl X) r0 hr0) ⟨Nat.le_of_ble_eq_true rfl, Nat.le_of_ble_eq_true rfl⟩ rfl rfl (Nat.le_of_ble_eq_true rfl) dX6_bestCorner_28 ⟨Nat.le_of_ble_eq_true rfl, Nat.le_of_ble_eq_true rfl⟩) (q := 31) rfl (cs' := 0) rfl (sl' := 0) rfl (fun v7_ h6_ => ?_)
      refine s_if_ne o (tgt := 36) dX6_bestCorner_31 (by decide) (q := 34) rfl ?_ ?_
      · refine s_iconst o dX6_bestCorner_36 (v := (-1 : Int32)) (by decide) (q := 37) rfl ?_
        refine s_istore_n o [1, 2, 3, 0] (lv' := [(0, rf (xG X) x0), (1, .int x1), (2, .int x2), (3, .int (-1 : Int32))]) rfl dX6_bestCorner_37 (by decide) (q := 38) rfl ?_
        refine s_iconst o dX6_bestCorner_38 (v := (0 : Int32)) (by decide) (q := 39) rfl ?_
        refine s_istore o [1, 2, 3, 4, 0] (lv' := [(0, rf (xG X) x0), (1, .int x1), (2, .int x2), (3, .int (-1 : Int32)), (4, .int (0 : Int32))]) rfl dX6_bestCorner_39 (by decide) (q := 41) rfl ?_
        refine s_iconst o dX6_bestCorner_41 (v := (0 : Int32)) (by decide) (q := 42) rfl ?_
        refine s_istore o [1, 2, 3, 4, 5, 0] (lv' := [(0, rf (xG X) x0), (1, .int x1), (2, .int x2), (3, .int (-1 : Int32)), (4, .int (0 : Int32)), (5, .int (0 : Int32))]) rfl dX6_bestCorner_42 (by decide) (q := 44) rfl ?_
        exact s_sub [0, 1, 2, 3, 4, 5] rfl (tl_X6_bestCorner_44 o f f x0 x1 x2 (-1 : Int32) (0 : Int32) (0 : Int32) h6_)
      · refine s_iconst o dX6_bestCorner_34 (v := (-1 : Int32)) (by decide) (q := 35) rfl ?_
        exact s_iret o dX6_bestCorner_35
    · refine s_ldc o kc_X6_125 dX6_bestCorner_23 (q := 25) rfl ?_
      exact s_iret o dX6_bestCorner_25
  · refine s_ldcw o kc_X6_266 dX6_bestCorner_7 (q := 10) rfl ?_
    exact s_iret o dX6_bestCorner_10
theorem c_X6_bestCorner (G : Gx) (f : Nat) (x0 : Nat) (x1 : Int32) (x2 : Int32) (h : Hp) : z_M z_qi G yX6_bestCorner cX6_bestCorner 9 (some .int) 5 129 0 0 [rf G x0, .int x1, .int x2] h (f_X6_bestCorner f x0 x1 x2 h) :=
  z_met (by decide +kernel) (Nat.le_of_ble_eq_true rfl) (fun X hG hn o hnm => by
    subst hG
    show Sim X (z_Zi X 0 0) 0 0 0 [(0, rf (xG X) x0), (1, .int x1), (2, .int x2)] [] h _
    exact s_sub [0, 1, 2] rfl (t_X6_bestCorner_0 o f x0 x1 x2 h))
