/-! SixMaps.loudest()I -/
def f_X5_loudest (f : Nat)  (x0 : Nat) (h : Hp) : Option (Int32 × Hp) :=
  (q_gr h x0 5 9).bind fun a1_ =>
  (q_gr h x0 5 3).bind fun a2_ =>
  (q_gi h a2_ 0 5).bind fun v3_ =>
  q_on h a1_ 3 (
  bi (f_X3_bandOfMostUntrue f a1_ v3_ h) fun v6_ h5_ =>
  some (v6_, h5_))
set_option maxRecDepth 20000 in
theorem t_X5_loudest_0 {X : Cx} (o : Ok X RX5 cX5_loudest 1 4 92 0 0 (some .int)) (f : Nat)  (x0 : Nat) (h : Hp) : Sim X (z_Zi X 0 0) 0 0 0 [(0, rf (xG X) x0)] [] h (f_X5_loudest f x0 h) := by
  unfold f_X5_loudest
  refine s_aload_n o 0 rfl dX5_loudest_0 (q := 1) rfl ?_
  refine s_gr o kf_X5_55 dX5_loudest_1 (q := 4) rfl (fun a1_ => ?_)
  refine s_aload_n o 0 rfl dX5_loudest_4 (q := 5) rfl ?_
  refine s_gr o kf_X5_23 dX5_loudest_5 (q := 8) rfl (fun a2_ => ?_)
  refine s_gi o kf_X5_219 dX5_loudest_8 (q := 11) rfl (fun v3_ => ?_)
  refine s_on (fun hk4_ => ?_)
  refine s_bi (fun r0 hr0 => runV o hk4_ cv_X5_237 (c_X3_bandOfMostUntrue (xG X) f a1_ v3_ h (xl X) r0 hr0) ⟨Nat.le_of_ble_eq_true rfl, Nat.le_of_ble_eq_true rfl⟩ rfl rfl (Nat.le_of_ble_eq_true rfl) dX5_loudest_11 ⟨Nat.le_of_ble_eq_true rfl, Nat.le_of_ble_eq_true rfl⟩) (q := 14) rfl (cs' := 0) rfl (sl' := 0) rfl (fun v6_ h5_ => ?_)
  exact s_iret o dX5_loudest_14
theorem c_X5_loudest (G : Gx) (f : Nat) (x0 : Nat) (h : Hp) : z_M z_qi G yX5_loudest cX5_loudest 1 (some .int) 4 92 0 0 [rf G x0] h (f_X5_loudest f x0 h) :=
  z_met (by decide +kernel) (Nat.le_of_ble_eq_true rfl) (fun X hG hn o hnm => by
    subst hG
    show Sim X (z_Zi X 0 0) 0 0 0 [(0, rf (xG X) x0)] [] h _
    exact s_sub [0] rfl (t_X5_loudest_0 o f x0 h))
/-! SixMaps.map(III)I -/
def b_X5_map_65 (f : Nat)  (y0 : Int32) (h : Hp) : Option (Int32 × Hp) :=
  some (y0, h)
def b_X5_map_27 (f : Nat)   (h : Hp) : Option (Int32 × Hp) :=
  some ((-1000002 : Int32), h)
def b_X5_map_15 (f : Nat)   (h : Hp) : Option (Int32 × Hp) :=
  some ((-1000001 : Int32), h)
def f_X5_map (f : Nat)  (x0 : Nat) (x1 : Int32) (x2 : Int32) (x3 : Int32) (h : Hp) : Option (Int32 × Hp) :=
  bi (f_X5_isBand f x1 h) fun v2_ h1_ =>
  if v2_ = 0 then
  (b_X5_map_15 f h1_)
  else
  (q_on h1_ x0 5 (
  bi (f_X5_isMark f x0 x2 h1_) fun v5_ h4_ =>
  if ¬ v5_ = 0 then
  (if x3 < 0 then
  (b_X5_map_27 f h4_)
  else
  (if x3 ≤ (1 : Int32) then
  (if ¬ x3 = 0 then
  ((q_gr h4_ x0 5 3).bind fun a6_ =>
  (q_gr h4_ a6_ 0 3).bind fun a7_ =>
  (q_ai h4_ a7_ 9 ((x1 * (9 : Int32)) + x2)).bind fun v8_ =>
  b_X5_map_65 f v8_ h4_)
  else
  ((q_gr h4_ x0 5 3).bind fun a9_ =>
  (q_gr h4_ a9_ 0 2).bind fun a10_ =>
  (q_ai h4_ a10_ 9 ((x1 * (9 : Int32)) + x2)).bind fun v11_ =>
  b_X5_map_65 f v11_ h4_))
  else
  (b_X5_map_27 f h4_)))
  else
  (b_X5_map_15 f h4_)))
set_option maxRecDepth 20000 in
theorem t_X5_map_65 {X : Cx} (o : Ok X RX5 cX5_map 4 1 21 0 0 (some .int)) (f : Nat)  (y0 : Int32) (h : Hp) : Sim X (z_Zi X 0 0) 0 0 65 [] [.int y0] h (b_X5_map_65 f y0 h) := by
  unfold b_X5_map_65
  exact s_iret o dX5_map_65
set_option maxRecDepth 20000 in
theorem t_X5_map_27 {X : Cx} (o : Ok X RX5 cX5_map 4 1 21 0 0 (some .int)) (f : Nat)   (h : Hp) : Sim X (z_Zi X 0 0) 0 0 27 [] [] h (b_X5_map_27 f h) := by
  unfold b_X5_map_27
  refine s_ldc o kc_X5_66 dX5_map_27 (q := 29) rfl ?_
  exact s_iret o dX5_map_29
set_option maxRecDepth 20000 in
theorem t_X5_map_15 {X : Cx} (o : Ok X RX5 cX5_map 4 1 21 0 0 (some .int)) (f : Nat)   (h : Hp) : Sim X (z_Zi X 0 0) 0 0 15 [] [] h (b_X5_map_15 f h) := by
  unfold b_X5_map_15
  refine s_ldc o kc_X5_116 dX5_map_15 (q := 17) rfl ?_
  exact s_iret o dX5_map_17
set_option maxRecDepth 20000 in
theorem t_X5_map_0 {X : Cx} (o : Ok X RX5 cX5_map 4 1 21 0 0 (some .int)) (f : Nat)  (x0 : Nat) (x1 : Int32) (x2 : Int32) (x3 : Int32) (h : Hp) : Sim X (z_Zi X 0 0) 0 0 0 [(0, rf (xG X) x0), (1, .int x1), (2, .int x2), (3, .int x3)] [] h (f_X5_map f x0 x1 x2 x3 h) := by
  unfold f_X5_map
  refine s_iload_n o 1 rfl dX5_map_0 (q := 1) rfl ?_
  refine s_bi (fun r0 hr0 => runS o cs_X5_124 (c_X5_isBand (xG X) f x1 h (xl X) r0 hr0) ⟨Nat.le_of_ble_eq_true rfl, Nat.le_of_ble_eq_true rfl⟩ rfl rfl (Nat.le_of_ble_eq_true rfl) dX5_map_1 ⟨Nat.le_of_ble_eq_true rfl, Nat.le_of_ble_eq_true rfl⟩) (q := 4) rfl (cs' := 0) rfl (sl' := 0) rfl (fun v2_ h1_ => ?_)
  refine s_if_eq o (tgt := 15) dX5_map_4 (by decide) (q := 7) rfl ?_ ?_
  · exact s_sub [] rfl (t_X5_map_15 o f h1_)
  · refine s_aload_n o 0 rfl dX5_map_7 (q := 8) rfl ?_
    refine s_iload_n o 2 rfl dX5_map_8 (q := 9) rfl ?_
    refine s_on (fun hk3_ => ?_)
    refine s_bi (fun r0 hr0 => runV o hk3_ cv_X5_112 (c_X5_isMark (xG X) f x0 x2 h1_ (xl X) r0 hr0) ⟨Nat.le_of_ble_eq_true rfl, Nat.le_of_ble_eq_true rfl⟩ rfl rfl (Nat.le_of_ble_eq_true rfl) dX5_map_9 ⟨Nat.le_of_ble_eq_true rfl, Nat.le_of_ble_eq_true rfl⟩) (q := 12) rfl (cs' := 0) rfl (sl' := 0) rfl (fun v5_ h4_ => ?_)
    refine s_if_ne o (tgt := 18) dX5_map_12 (by decide) (q := 15) rfl ?_ ?_
    · refine s_iload_n o 3 rfl dX5_map_18 (q := 19) rfl ?_
      refine s_if_lt o (tgt := 27) dX5_map_19 (by decide) (q := 22) rfl ?_ ?_
      · exact s_sub [] rfl (t_X5_map_27 o f h4_)
      · refine s_iload_n o 3 rfl dX5_map_22 (q := 23) rfl ?_
        refine s_iconst o dX5_map_23 (v := (1 : Int32)) (by decide) (q := 24) rfl ?_
        refine s_ic_le o (tgt := 30) dX5_map_24 (by decide) (q := 27) rfl ?_ ?_
        · refine s_iload_n o 3 rfl dX5_map_30 (q := 31) rfl ?_
          refine s_if_ne o (tgt := 51) dX5_map_31 (by decide) (q := 34) rfl ?_ ?_
          · refine s_aload_n o 0 rfl dX5_map_51 (q := 52) rfl ?_
            refine s_gr o kf_X5_23 dX5_map_52 (q := 55) rfl (fun a6_ => ?_)
            refine s_gr o kf_X5_130 dX5_map_55 (q := 58) rfl (fun a7_ => ?_)
            refine s_iload_n o 1 rfl dX5_map_58 (q := 59) rfl ?_
            refine s_bipush o dX5_map_59 (v := (9 : Int32)) (by decide) (q := 61) rfl ?_
            refine s_imul o dX5_map_61 (q := 62) rfl ?_
            refine s_iload_n o 2 rfl dX5_map_62 (q := 63) rfl ?_
            refine s_iadd o dX5_map_63 (q := 64) rfl ?_
            refine s_iald o dX5_map_64 (q := 65) rfl (fun v8_ => ?_)
            exact s_sub [] rfl (t_X5_map_65 o f v8_ h4_)
          · refine s_aload_n o 0 rfl dX5_map_34 (q := 35) rfl ?_
            refine s_gr o kf_X5_23 dX5_map_35 (q := 38) rfl (fun a9_ => ?_)
            refine s_gr o kf_X5_127 dX5_map_38 (q := 41) rfl (fun a10_ => ?_)
            refine s_iload_n o 1 rfl dX5_map_41 (q := 42) rfl ?_
            refine s_bipush o dX5_map_42 (v := (9 : Int32)) (by decide) (q := 44) rfl ?_
            refine s_imul o dX5_map_44 (q := 45) rfl ?_
            refine s_iload_n o 2 rfl dX5_map_45 (q := 46) rfl ?_
            refine s_iadd o dX5_map_46 (q := 47) rfl ?_
            refine s_iald o dX5_map_47 (q := 48) rfl (fun v11_ => ?_)
            refine s_goto o (tgt := 65) dX5_map_48 (by decide) ?_
            exact s_sub [] rfl (t_X5_map_65 o f v11_ h4_)
        · exact s_sub [] rfl (t_X5_map_27 o f h4_)
    · exact s_sub [] rfl (t_X5_map_15 o f h4_)
theorem c_X5_map (G : Gx) (f : Nat) (x0 : Nat) (x1 : Int32) (x2 : Int32) (x3 : Int32) (h : Hp) : z_M z_qi G yX5_map cX5_map 4 (some .int) 1 21 0 0 [rf G x0, .int x1, .int x2, .int x3] h (f_X5_map f x0 x1 x2 x3 h) :=
  z_met (by decide +kernel) (Nat.le_of_ble_eq_true rfl) (fun X hG hn o hnm => by
    subst hG
    show Sim X (z_Zi X 0 0) 0 0 0 [(0, rf (xG X) x0), (1, .int x1), (2, .int x2), (3, .int x3)] [] h _
    exact s_sub [0, 1, 2, 3] rfl (t_X5_map_0 o f x0 x1 x2 x3 h))
/-! SixMaps.mark(II)I -/
def b_X5_mark_48 (f : Nat)  (y0 : Int32) (h : Hp) : Option (Int32 × Hp) :=
  some (y0, h)
def b_X5_mark_20 (f : Nat)   (h : Hp) : Option (Int32 × Hp) :=
  some ((-1000002 : Int32), h)
def f_X5_mark (f : Nat)  (x0 : Nat) (x1 : Int32) (x2 : Int32) (h : Hp) : Option (Int32 × Hp) :=
  q_on h x0 5 (
  bi (f_X5_isMark f x0 x1 h) fun v3_ h2_ =>
  if ¬ v3_ = 0 then
  (if x2 < 0 then
  (b_X5_mark_20 f h2_)
  else
  (if x2 ≤ (1 : Int32) then
  (if ¬ x2 = 0 then
  ((q_gr h2_ x0 5 3).bind fun a4_ =>
  (q_gr h2_ a4_ 0 1).bind fun a5_ =>
  (q_ai h2_ a5_ 9 x1).bind fun v6_ =>
  b_X5_mark_48 f v6_ h2_)
  else
  ((q_gr h2_ x0 5 3).bind fun a7_ =>
  (q_gr h2_ a7_ 0 0).bind fun a8_ =>
  (q_ai h2_ a8_ 9 x1).bind fun v9_ =>
  b_X5_mark_48 f v9_ h2_))
  else
  (b_X5_mark_20 f h2_)))
  else
  (some ((-1000001 : Int32), h2_)))
set_option maxRecDepth 20000 in
theorem t_X5_mark_48 {X : Cx} (o : Ok X RX5 cX5_mark 3 1 21 0 0 (some .int)) (f : Nat)  (y0 : Int32) (h : Hp) : Sim X (z_Zi X 0 0) 0 0 48 [] [.int y0] h (b_X5_mark_48 f y0 h) := by
  unfold b_X5_mark_48
  exact s_iret o dX5_mark_48
set_option maxRecDepth 20000 in
theorem t_X5_mark_20 {X : Cx} (o : Ok X RX5 cX5_mark 3 1 21 0 0 (some .int)) (f : Nat)   (h : Hp) : Sim X (z_Zi X 0 0) 0 0 20 [] [] h (b_X5_mark_20 f h) := by
  unfold b_X5_mark_20
  refine s_ldc o kc_X5_66 dX5_mark_20 (q := 22) rfl ?_
  exact s_iret o dX5_mark_22
set_option maxRecDepth 20000 in
theorem t_X5_mark_0 {X : Cx} (o : Ok X RX5 cX5_mark 3 1 21 0 0 (some .int)) (f : Nat)  (x0 : Nat) (x1 : Int32) (x2 : Int32) (h : Hp) : Sim X (z_Zi X 0 0) 0 0 0 [(0, rf (xG X) x0), (1, .int x1), (2, .int x2)] [] h (f_X5_mark f x0 x1 x2 h) := by
  unfold f_X5_mark
  refine s_aload_n o 0 rfl dX5_mark_0 (q := 1) rfl ?_
  refine s_iload_n o 1 rfl dX5_mark_1 (q := 2) rfl ?_
  refine s_on (fun hk1_ => ?_)
  refine s_bi (fun r0 hr0 => runV o hk1_ cv_X5_112 (c_X5_isMark (xG X) f x0 x1 h (xl X) r0 hr0) ⟨Nat.le_of_ble_eq_true rfl, Nat.le_of_ble_eq_true rfl⟩ rfl rfl (Nat.le_of_ble_eq_true rfl) dX5_mark_2 ⟨Nat.le_of_ble_eq_true rfl, Nat.le_of_ble_eq_true rfl⟩) (q := 5) rfl (cs' := 0) rfl (sl' := 0) rfl (fun v3_ h2_ => ?_)
  refine s_if_ne o (tgt := 11) dX5_mark_5 (by decide) (q := 8) rfl ?_ ?_
  · refine s_iload_n o 2 rfl dX5_mark_11 (q := 12) rfl ?_
    refine s_if_lt o (tgt := 20) dX5_mark_12 (by decide) (q := 15) rfl ?_ ?_
    · exact s_sub [] rfl (t_X5_mark_20 o f h2_)
    · refine s_iload_n o 2 rfl dX5_mark_15 (q := 16) rfl ?_
      refine s_iconst o dX5_mark_16 (v := (1 : Int32)) (by decide) (q := 17) rfl ?_
      refine s_ic_le o (tgt := 23) dX5_mark_17 (by decide) (q := 20) rfl ?_ ?_
      · refine s_iload_n o 2 rfl dX5_mark_23 (q := 24) rfl ?_
        refine s_if_ne o (tgt := 39) dX5_mark_24 (by decide) (q := 27) rfl ?_ ?_
        · refine s_aload_n o 0 rfl dX5_mark_39 (q := 40) rfl ?_
          refine s_gr o kf_X5_23 dX5_mark_40 (q := 43) rfl (fun a4_ => ?_)
          refine s_gr o kf_X5_121 dX5_mark_43 (q := 46) rfl (fun a5_ => ?_)
          refine s_iload_n o 1 rfl dX5_mark_46 (q := 47) rfl ?_
          refine s_iald o dX5_mark_47 (q := 48) rfl (fun v6_ => ?_)
          exact s_sub [] rfl (t_X5_mark_48 o f v6_ h2_)
        · refine s_aload_n o 0 rfl dX5_mark_27 (q := 28) rfl ?_
          refine s_gr o kf_X5_23 dX5_mark_28 (q := 31) rfl (fun a7_ => ?_)
          refine s_gr o kf_X5_117 dX5_mark_31 (q := 34) rfl (fun a8_ => ?_)
          refine s_iload_n o 1 rfl dX5_mark_34 (q := 35) rfl ?_
          refine s_iald o dX5_mark_35 (q := 36) rfl (fun v9_ => ?_)
          refine s_goto o (tgt := 48) dX5_mark_36 (by decide) ?_
          exact s_sub [] rfl (t_X5_mark_48 o f v9_ h2_)
      · exact s_sub [] rfl (t_X5_mark_20 o f h2_)
  · refine s_ldc o kc_X5_116 dX5_mark_8 (q := 10) rfl ?_
    exact s_iret o dX5_mark_10
theorem c_X5_mark (G : Gx) (f : Nat) (x0 : Nat) (x1 : Int32) (x2 : Int32) (h : Hp) : z_M z_qi G yX5_mark cX5_mark 3 (some .int) 1 21 0 0 [rf G x0, .int x1, .int x2] h (f_X5_mark f x0 x1 x2 h) :=
  z_met (by decide +kernel) (Nat.le_of_ble_eq_true rfl) (fun X hG hn o hnm => by
    subst hG
    show Sim X (z_Zi X 0 0) 0 0 0 [(0, rf (xG X) x0), (1, .int x1), (2, .int x2)] [] h _
    exact s_sub [0, 1, 2] rfl (t_X5_mark_0 o f x0 x1 x2 h))
/-! SixMaps.may(II)I -/
def b_X5_may_67 (f : Nat)  (y0 : Int32) (h : Hp) : Option (Int32 × Hp) :=
  some (y0, h)
def b_X5_may_54 (f : Nat)   (h : Hp) : Option (Int32 × Hp) :=
  b_X5_may_67 f (-1 : Int32) h
def f_X5_may (f : Nat)  (x0 : Nat) (x1 : Int32) (x2 : Int32) (h : Hp) : Option (Int32 × Hp) :=
  bi (f_X5_isBand f x1 h) fun v2_ h1_ =>
  if ¬ v2_ = 0 then
  ((q_gr h1_ x0 5 10).bind fun a3_ =>
  (q_gr h1_ x0 5 3).bind fun a4_ =>
  (q_gr h1_ x0 5 6).bind fun a5_ =>
  q_on h1_ a3_ 1 (
  (f_X1_weigh f a3_ a4_ a5_ x1 h1_).bind fun h7_ =>
  if ¬ x2 = (-1 : Int32) then
  (if x2 < 0 then
  (b_X5_may_54 f h7_)
  else
  ((q_gr h7_ x0 5 10).bind fun a8_ =>
  (q_gi h7_ a8_ 1 12).bind fun v9_ =>
  if x2 < v9_ then
  ((q_gr h7_ x0 5 10).bind fun a10_ =>
  (q_gr h7_ a10_ 1 7).bind fun a11_ =>
  (q_ai h7_ a11_ 9 x2).bind fun v12_ =>
  b_X5_may_67 f v12_ h7_)
  else
  (b_X5_may_54 f h7_)))
  else
  ((q_gr h7_ x0 5 10).bind fun a13_ =>
  (q_gi h7_ a13_ 1 12).bind fun v14_ =>
  some (v14_, h7_))))
  else
  (some ((-1000001 : Int32), h1_))
set_option maxRecDepth 20000 in
theorem t_X5_may_67 {X : Cx} (o : Ok X RX5 cX5_may 3 6 133 0 0 (some .int)) (f : Nat)  (y0 : Int32) (h : Hp) : Sim X (z_Zi X 0 0) 0 0 67 [] [.int y0] h (b_X5_may_67 f y0 h) := by
  unfold b_X5_may_67
  exact s_iret o dX5_may_67
set_option maxRecDepth 20000 in
theorem t_X5_may_54 {X : Cx} (o : Ok X RX5 cX5_may 3 6 133 0 0 (some .int)) (f : Nat)   (h : Hp) : Sim X (z_Zi X 0 0) 0 0 54 [] [] h (b_X5_may_54 f h) := by
  unfold b_X5_may_54
  refine s_iconst o dX5_may_54 (v := (-1 : Int32)) (by decide) (q := 55) rfl ?_
  refine s_goto o (tgt := 67) dX5_may_55 (by decide) ?_
  exact s_sub [] rfl (t_X5_may_67 o f (-1 : Int32) h)
set_option maxRecDepth 20000 in
theorem t_X5_may_0 {X : Cx} (o : Ok X RX5 cX5_may 3 6 133 0 0 (some .int)) (f : Nat)  (x0 : Nat) (x1 : Int32) (x2 : Int32) (h : Hp) : Sim X (z_Zi X 0 0) 0 0 0 [(0, rf (xG X) x0), (1, .int x1), (2, .int x2)] [] h (f_X5_may f x0 x1 x2 h) := by
  unfold f_X5_may
  refine s_iload_n o 1 rfl dX5_may_0 (q := 1) rfl ?_
  refine s_bi (fun r0 hr0 => runS o cs_X5_124 (c_X5_isBand (xG X) f x1 h (xl X) r0 hr0) ⟨Nat.le_of_ble_eq_true rfl, Nat.le_of_ble_eq_true rfl⟩ rfl rfl (Nat.le_of_ble_eq_true rfl) dX5_may_1 ⟨Nat.le_of_ble_eq_true rfl, Nat.le_of_ble_eq_true rfl⟩) (q := 4) rfl (cs' := 0) rfl (sl' := 0) rfl (fun v2_ h1_ => ?_)
  refine s_if_ne o (tgt := 10) dX5_may_4 (by decide) (q := 7) rfl ?_ ?_
  · refine s_aload_n o 0 rfl dX5_may_10 (q := 11) rfl ?_
    refine s_gr o kf_X5_62 dX5_may_11 (q := 14) rfl (fun a3_ => ?_)
    refine s_aload_n o 0 rfl dX5_may_14 (q := 15) rfl ?_
    refine s_gr o kf_X5_23 dX5_may_15 (q := 18) rfl (fun a4_ => ?_)
    refine s_aload_n o 0 rfl dX5_may_18 (q := 19) rfl ?_
    refine s_gr o kf_X5_40 dX5_may_19 (q := 22) rfl (fun a5_ => ?_)
    refine s_iload_n o 1 rfl dX5_may_22 (q := 23) rfl ?_
    refine s_on (fun hk6_ => ?_)
    refine s_callv (fun r0 hr0 => runV o hk6_ cv_X5_161 (c_X1_weigh (xG X) f a3_ a4_ a5_ x1 h1_ (xl X) r0 hr0) ⟨Nat.le_of_ble_eq_true rfl, Nat.le_of_ble_eq_true rfl⟩ rfl rfl (Nat.le_of_ble_eq_true rfl) dX5_may_23 ⟨Nat.le_of_ble_eq_true rfl, Nat.le_of_ble_eq_true rfl⟩) (q := 26) rfl (cs' := 0) rfl (sl' := 0) rfl (fun h7_ => ?_)
    refine s_iload_n o 2 rfl dX5_may_26 (q := 27) rfl ?_
    refine s_iconst o dX5_may_27 (v := (-1 : Int32)) (by decide) (q := 28) rfl ?_
    refine s_ic_ne o (tgt := 39) dX5_may_28 (by decide) (q := 31) rfl ?_ ?_
    · refine s_iload_n o 2 rfl dX5_may_39 (q := 40) rfl ?_
      refine s_if_lt o (tgt := 54) dX5_may_40 (by decide) (q := 43) rfl ?_ ?_
      · exact s_sub [] rfl (t_X5_may_54 o f h7_)
      · refine s_iload_n o 2 rfl dX5_may_43 (q := 44) rfl ?_
        refine s_aload_n o 0 rfl dX5_may_44 (q := 45) rfl ?_
        refine s_gr o kf_X5_62 dX5_may_45 (q := 48) rfl (fun a8_ => ?_)
        refine s_gi o kf_X5_165 dX5_may_48 (q := 51) rfl (fun v9_ => ?_)
        refine s_ic_lt o (tgt := 58) dX5_may_51 (by decide) (q := 54) rfl ?_ ?_
        · refine s_aload_n o 0 rfl dX5_may_58 (q := 59) rfl ?_
          refine s_gr o kf_X5_62 dX5_may_59 (q := 62) rfl (fun a10_ => ?_)
          refine s_gr o kf_X5_166 dX5_may_62 (q := 65) rfl (fun a11_ => ?_)
          refine s_iload_n o 2 rfl dX5_may_65 (q := 66) rfl ?_
          refine s_iald o dX5_may_66 (q := 67) rfl (fun v12_ => ?_)
          exact s_sub [] rfl (t_X5_may_67 o f v12_ h7_)
        · exact s_sub [] rfl (t_X5_may_54 o f h7_)
    · refine s_aload_n o 0 rfl dX5_may_31 (q := 32) rfl ?_
      refine s_gr o kf_X5_62 dX5_may_32 (q := 35) rfl (fun a13_ => ?_)
      refine s_gi o kf_X5_165 dX5_may_35 (q := 38) rfl (fun v14_ => ?_)
      exact s_iret o dX5_may_38
  · refine s_ldc o kc_X5_116 dX5_may_7 (q := 9) rfl ?_
    exact s_iret o dX5_may_9
theorem c_X5_may (G : Gx) (f : Nat) (x0 : Nat) (x1 : Int32) (x2 : Int32) (h : Hp) : z_M z_qi G yX5_may cX5_may 3 (some .int) 6 133 0 0 [rf G x0, .int x1, .int x2] h (f_X5_may f x0 x1 x2 h) :=
  z_met (by decide +kernel) (Nat.le_of_ble_eq_true rfl) (fun X hG hn o hnm => by
    subst hG
    show Sim X (z_Zi X 0 0) 0 0 0 [(0, rf (xG X) x0), (1, .int x1), (2, .int x2)] [] h _
    exact s_sub [0, 1, 2] rfl (t_X5_may_0 o f x0 x1 x2 h))
/-! SixMaps.purse(I)I -/
def b_X5_purse_21 (f : Nat)  (y0 : Int32) (h : Hp) : Option (Int32 × Hp) :=
  some (y0, h)
def f_X5_purse (f : Nat)  (x0 : Nat) (x1 : Int32) (h : Hp) : Option (Int32 × Hp) :=
  bi (f_X5_isBand f x1 h) fun v2_ h1_ =>
  if v2_ = 0 then
  (b_X5_purse_21 f (-1000001 : Int32) h1_)
  else
  ((q_gr h1_ x0 5 6).bind fun a3_ =>
  (q_gr h1_ a3_ 4 3).bind fun a4_ =>
  (q_ai h1_ a4_ 9 x1).bind fun v5_ =>
  b_X5_purse_21 f v5_ h1_)
set_option maxRecDepth 20000 in
theorem t_X5_purse_21 {X : Cx} (o : Ok X RX5 cX5_purse 2 1 20 0 0 (some .int)) (f : Nat)  (y0 : Int32) (h : Hp) : Sim X (z_Zi X 0 0) 0 0 21 [] [.int y0] h (b_X5_purse_21 f y0 h) := by
  unfold b_X5_purse_21
  exact s_iret o dX5_purse_21
set_option maxRecDepth 20000 in
theorem t_X5_purse_0 {X : Cx} (o : Ok X RX5 cX5_purse 2 1 20 0 0 (some .int)) (f : Nat)  (x0 : Nat) (x1 : Int32) (h : Hp) : Sim X (z_Zi X 0 0) 0 0 0 [(0, rf (xG X) x0), (1, .int x1)] [] h (f_X5_purse f x0 x1 h) := by
  unfold f_X5_purse
  refine s_iload_n o 1 rfl dX5_purse_0 (q := 1) rfl ?_
  refine s_bi (fun r0 hr0 => runS o cs_X5_124 (c_X5_isBand (xG X) f x1 h (xl X) r0 hr0) ⟨Nat.le_of_ble_eq_true rfl, Nat.le_of_ble_eq_true rfl⟩ rfl rfl (Nat.le_of_ble_eq_true rfl) dX5_purse_1 ⟨Nat.le_of_ble_eq_true rfl, Nat.le_of_ble_eq_true rfl⟩) (q := 4) rfl (cs' := 0) rfl (sl' := 0) rfl (fun v2_ h1_ => ?_)
  refine s_if_eq o (tgt := 19) dX5_purse_4 (by decide) (q := 7) rfl ?_ ?_
  · refine s_ldc o kc_X5_116 dX5_purse_19 (q := 21) rfl ?_
    exact s_sub [] rfl (t_X5_purse_21 o f (-1000001 : Int32) h1_)
  · refine s_aload_n o 0 rfl dX5_purse_7 (q := 8) rfl ?_
    refine s_gr o kf_X5_40 dX5_purse_8 (q := 11) rfl (fun a3_ => ?_)
    refine s_gr o kf_X5_158 dX5_purse_11 (q := 14) rfl (fun a4_ => ?_)
    refine s_iload_n o 1 rfl dX5_purse_14 (q := 15) rfl ?_
    refine s_iald o dX5_purse_15 (q := 16) rfl (fun v5_ => ?_)
    refine s_goto o (tgt := 21) dX5_purse_16 (by decide) ?_
    exact s_sub [] rfl (t_X5_purse_21 o f v5_ h1_)
theorem c_X5_purse (G : Gx) (f : Nat) (x0 : Nat) (x1 : Int32) (h : Hp) : z_M z_qi G yX5_purse cX5_purse 2 (some .int) 1 20 0 0 [rf G x0, .int x1] h (f_X5_purse f x0 x1 h) :=
  z_met (by decide +kernel) (Nat.le_of_ble_eq_true rfl) (fun X hG hn o hnm => by
    subst hG
    show Sim X (z_Zi X 0 0) 0 0 0 [(0, rf (xG X) x0), (1, .int x1)] [] h _
    exact s_sub [0, 1] rfl (t_X5_purse_0 o f x0 x1 h))
/-! SixMaps.say(IIZ)I -/
def b_X5_say_14 (f : Nat)   (h : Hp) : Option (Int32 × Hp) :=
  some ((-1000001 : Int32), h)
def f_X5_say (f : Nat)  (x0 : Nat) (x1 : Int32) (x2 : Int32) (x3 : Int32) (h : Hp) : Option (Int32 × Hp) :=
  bi (f_X5_isBand f x1 h) fun v2_ h1_ =>
  if v2_ = 0 then
  (b_X5_say_14 f h1_)
  else
  (bi (f_X5_isBand f x2 h1_) fun v4_ h3_ =>
  if ¬ v4_ = 0 then
  ((q_gr h3_ x0 5 9).bind fun a5_ =>
  (q_gi h3_ a5_ 3 3).bind fun v6_ =>
  if v6_ < (20 : Int32) then
  ((q_gr h3_ x0 5 9).bind fun a7_ =>
  q_on h3_ a7_ 3 (
  bi (f_X3_add f a7_ x1 x2 x3 h3_) fun v10_ h9_ =>
  some (v10_, h9_)))
  else
  (some ((-1000004 : Int32), h3_)))
  else
  (b_X5_say_14 f h3_))
set_option maxRecDepth 20000 in
theorem t_X5_say_14 {X : Cx} (o : Ok X RX5 cX5_say 4 1 23 0 0 (some .int)) (f : Nat)   (h : Hp) : Sim X (z_Zi X 0 0) 0 0 14 [] [] h (b_X5_say_14 f h) := by
  unfold b_X5_say_14
  refine s_ldc o kc_X5_116 dX5_say_14 (q := 16) rfl ?_
  exact s_iret o dX5_say_16
set_option maxRecDepth 20000 in
theorem t_X5_say_0 {X : Cx} (o : Ok X RX5 cX5_say 4 1 23 0 0 (some .int)) (f : Nat)  (x0 : Nat) (x1 : Int32) (x2 : Int32) (x3 : Int32) (h : Hp) : Sim X (z_Zi X 0 0) 0 0 0 [(0, rf (xG X) x0), (1, .int x1), (2, .int x2), (3, .int x3)] [] h (f_X5_say f x0 x1 x2 x3 h) := by
  unfold f_X5_say
  refine s_iload_n o 1 rfl dX5_say_0 (q := 1) rfl ?_
  refine s_bi (fun r0 hr0 => runS o cs_X5_124 (c_X5_isBand (xG X) f x1 h (xl X) r0 hr0) ⟨Nat.le_of_ble_eq_true rfl, Nat.le_of_ble_eq_true rfl⟩ rfl rfl (Nat.le_of_ble_eq_true rfl) dX5_say_1 ⟨Nat.le_of_ble_eq_true rfl, Nat.le_of_ble_eq_true rfl⟩) (q := 4) rfl (cs' := 0) rfl (sl' := 0) rfl (fun v2_ h1_ => ?_)
  refine s_if_eq o (tgt := 14) dX5_say_4 (by decide) (q := 7) rfl ?_ ?_
  · exact s_sub [] rfl (t_X5_say_14 o f h1_)
  · refine s_iload_n o 2 rfl dX5_say_7 (q := 8) rfl ?_
    refine s_bi (fun r0 hr0 => runS o cs_X5_124 (c_X5_isBand (xG X) f x2 h1_ (xl X) r0 hr0) ⟨Nat.le_of_ble_eq_true rfl, Nat.le_of_ble_eq_true rfl⟩ rfl rfl (Nat.le_of_ble_eq_true rfl) dX5_say_8 ⟨Nat.le_of_ble_eq_true rfl, Nat.le_of_ble_eq_true rfl⟩) (q := 11) rfl (cs' := 0) rfl (sl' := 0) rfl (fun v4_ h3_ => ?_)
    refine s_if_ne o (tgt := 17) dX5_say_11 (by decide) (q := 14) rfl ?_ ?_
    · refine s_aload_n o 0 rfl dX5_say_17 (q := 18) rfl ?_
      refine s_gr o kf_X5_55 dX5_say_18 (q := 21) rfl (fun a5_ => ?_)
      refine s_gi o kf_X5_82 dX5_say_21 (q := 24) rfl (fun v6_ => ?_)
      refine s_bipush o dX5_say_24 (v := (20 : Int32)) (by decide) (q := 26) rfl ?_
      refine s_ic_lt o (tgt := 32) dX5_say_26 (by decide) (q := 29) rfl ?_ ?_
      · refine s_aload_n o 0 rfl dX5_say_32 (q := 33) rfl ?_
        refine s_gr o kf_X5_55 dX5_say_33 (q := 36) rfl (fun a7_ => ?_)
        refine s_iload_n o 1 rfl dX5_say_36 (q := 37) rfl ?_
        refine s_iload_n o 2 rfl dX5_say_37 (q := 38) rfl ?_
        refine s_iload_n o 3 rfl dX5_say_38 (q := 39) rfl ?_
        refine s_on (fun hk8_ => ?_)
        refine s_bi (fun r0 hr0 => runV o hk8_ cv_X5_215 (c_X3_add (xG X) f a7_ x1 x2 x3 h3_ (xl X) r0 hr0) ⟨Nat.le_of_ble_eq_true rfl, Nat.le_of_ble_eq_true rfl⟩ rfl rfl (Nat.le_of_ble_eq_true rfl) dX5_say_39 ⟨Nat.le_of_ble_eq_true rfl, Nat.le_of_ble_eq_true rfl⟩) (q := 42) rfl (cs' := 0) rfl (sl' := 0) rfl (fun v10_ h9_ => ?_)
        exact s_iret o dX5_say_42
      · refine s_ldc o kc_X5_67 dX5_say_29 (q := 31) rfl ?_
        exact s_iret o dX5_say_31
    · exact s_sub [] rfl (t_X5_say_14 o f h3_)
theorem c_X5_say (G : Gx) (f : Nat) (x0 : Nat) (x1 : Int32) (x2 : Int32) (x3 : Int32) (h : Hp) : z_M z_qi G yX5_say cX5_say 4 (some .int) 1 23 0 0 [rf G x0, .int x1, .int x2, .int x3] h (f_X5_say f x0 x1 x2 x3 h) :=
  z_met (by decide +kernel) (Nat.le_of_ble_eq_true rfl) (fun X hG hn o hnm => by
    subst hG
    show Sim X (z_Zi X 0 0) 0 0 0 [(0, rf (xG X) x0), (1, .int x1), (2, .int x2), (3, .int x3)] [] h _
    exact s_sub [0, 1, 2, 3] rfl (t_X5_say_0 o f x0 x1 x2 x3 h))
/-! SixMaps.saying(II)I -/
def b_X5_saying_57 (f : Nat)  (y0 : Int32) (h : Hp) : Option (Int32 × Hp) :=
  some (y0, h)
def b_X5_saying_27 (f : Nat)   (h : Hp) : Option (Int32 × Hp) :=
  some ((-1000002 : Int32), h)
def b_X5_saying_15 (f : Nat)   (h : Hp) : Option (Int32 × Hp) :=
  some ((-1000001 : Int32), h)
def f_X5_saying (f : Nat)  (x0 : Nat) (x1 : Int32) (x2 : Int32) (h : Hp) : Option (Int32 × Hp) :=
  if x1 < 0 then
  (b_X5_saying_15 f h)
  else
  ((q_gr h x0 5 9).bind fun a1_ =>
  (q_gi h a1_ 3 3).bind fun v2_ =>
  if x1 < v2_ then
  (if x2 < 0 then
  (b_X5_saying_27 f h)
  else
  (if x2 ≤ (1 : Int32) then
  (if ¬ x2 = 0 then
  ((q_gr h x0 5 10).bind fun a3_ =>
  (q_gr h x0 5 3).bind fun a4_ =>
  (q_gr h x0 5 6).bind fun a5_ =>
  (q_gr h x0 5 9).bind fun a6_ =>
  (q_gr h a6_ 3 0).bind fun a7_ =>
  (q_ai h a7_ 9 x1).bind fun v8_ =>
  q_on h a3_ 1 (
  (f_X1_weigh f a3_ a4_ a5_ v8_ h).bind fun h10_ =>
  (q_gr h10_ x0 5 10).bind fun a11_ =>
  (q_gr h10_ x0 5 9).bind fun a12_ =>
  (q_gr h10_ a12_ 3 1).bind fun a13_ =>
  (q_ai h10_ a13_ 9 x1).bind fun v14_ =>
  (q_gr h10_ x0 5 9).bind fun a15_ =>
  (q_gr h10_ a15_ 3 2).bind fun a16_ =>
  (q_ai h10_ a16_ 10 x1).bind fun v17_ =>
  q_on h10_ a11_ 1 (
  bi (f_X1_ofHundred f a11_ v14_ v17_ h10_) fun v20_ h19_ =>
  some (v20_, h19_))))
  else
  ((q_gr h x0 5 9).bind fun a21_ =>
  (q_gr h x0 5 3).bind fun a22_ =>
  (q_gi h a22_ 0 5).bind fun v23_ =>
  q_on h a21_ 3 (
  bi (f_X3_isTrue f a21_ x1 v23_ h) fun v26_ h25_ =>
  if v26_ = 0 then
  (b_X5_saying_57 f (0 : Int32) h25_)
  else
  (b_X5_saying_57 f (1 : Int32) h25_))))
  else
  (b_X5_saying_27 f h)))
  else
  (b_X5_saying_15 f h))
set_option maxRecDepth 20000 in
theorem t_X5_saying_57 {X : Cx} (o : Ok X RX5 cX5_saying 3 6 133 0 0 (some .int)) (f : Nat)  (y0 : Int32) (h : Hp) : Sim X (z_Zi X 0 0) 0 0 57 [] [.int y0] h (b_X5_saying_57 f y0 h) := by
  unfold b_X5_saying_57
  exact s_iret o dX5_saying_57
set_option maxRecDepth 20000 in
theorem t_X5_saying_27 {X : Cx} (o : Ok X RX5 cX5_saying 3 6 133 0 0 (some .int)) (f : Nat)   (h : Hp) : Sim X (z_Zi X 0 0) 0 0 27 [] [] h (b_X5_saying_27 f h) := by
  unfold b_X5_saying_27
  refine s_ldc o kc_X5_66 dX5_saying_27 (q := 29) rfl ?_
  exact s_iret o dX5_saying_29
set_option maxRecDepth 20000 in
theorem t_X5_saying_15 {X : Cx} (o : Ok X RX5 cX5_saying 3 6 133 0 0 (some .int)) (f : Nat)   (h : Hp) : Sim X (z_Zi X 0 0) 0 0 15 [] [] h (b_X5_saying_15 f h) := by
  unfold b_X5_saying_15
  refine s_ldc o kc_X5_116 dX5_saying_15 (q := 17) rfl ?_
  exact s_iret o dX5_saying_17
set_option maxRecDepth 20000 in
theorem t_X5_saying_0 {X : Cx} (o : Ok X RX5 cX5_saying 3 6 133 0 0 (some .int)) (f : Nat)  (x0 : Nat) (x1 : Int32) (x2 : Int32) (h : Hp) : Sim X (z_Zi X 0 0) 0 0 0 [(0, rf (xG X) x0), (1, .int x1), (2, .int x2)] [] h (f_X5_saying f x0 x1 x2 h) := by
  unfold f_X5_saying
  refine s_iload_n o 1 rfl dX5_saying_0 (q := 1) rfl ?_
  refine s_if_lt o (tgt := 15) dX5_saying_1 (by decide) (q := 4) rfl ?_ ?_
  · exact s_sub [] rfl (t_X5_saying_15 o f h)
  · refine s_iload_n o 1 rfl dX5_saying_4 (q := 5) rfl ?_
    refine s_aload_n o 0 rfl dX5_saying_5 (q := 6) rfl ?_
    refine s_gr o kf_X5_55 dX5_saying_6 (q := 9) rfl (fun a1_ => ?_)
    refine s_gi o kf_X5_82 dX5_saying_9 (q := 12) rfl (fun v2_ => ?_)
    refine s_ic_lt o (tgt := 18) dX5_saying_12 (by decide) (q := 15) rfl ?_ ?_
    · refine s_iload_n o 2 rfl dX5_saying_18 (q := 19) rfl ?_
      refine s_if_lt o (tgt := 27) dX5_saying_19 (by decide) (q := 22) rfl ?_ ?_
      · exact s_sub [] rfl (t_X5_saying_27 o f h)
      · refine s_iload_n o 2 rfl dX5_saying_22 (q := 23) rfl ?_
        refine s_iconst o dX5_saying_23 (v := (1 : Int32)) (by decide) (q := 24) rfl ?_
        refine s_ic_le o (tgt := 30) dX5_saying_24 (by decide) (q := 27) rfl ?_ ?_
        · refine s_iload_n o 2 rfl dX5_saying_30 (q := 31) rfl ?_
          refine s_if_ne o (tgt := 58) dX5_saying_31 (by decide) (q := 34) rfl ?_ ?_
          · refine s_aload_n o 0 rfl dX5_saying_58 (q := 59) rfl ?_
            refine s_gr o kf_X5_62 dX5_saying_59 (q := 62) rfl (fun a3_ => ?_)
            refine s_aload_n o 0 rfl dX5_saying_62 (q := 63) rfl ?_
            refine s_gr o kf_X5_23 dX5_saying_63 (q := 66) rfl (fun a4_ => ?_)
            refine s_aload_n o 0 rfl dX5_saying_66 (q := 67) rfl ?_
            refine s_gr o kf_X5_40 dX5_saying_67 (q := 70) rfl (fun a5_ => ?_)
            refine s_aload_n o 0 rfl dX5_saying_70 (q := 71) rfl ?_
            refine s_gr o kf_X5_55 dX5_saying_71 (q := 74) rfl (fun a6_ => ?_)
            refine s_gr o kf_X5_225 dX5_saying_74 (q := 77) rfl (fun a7_ => ?_)
            refine s_iload_n o 1 rfl dX5_saying_77 (q := 78) rfl ?_
            refine s_iald o dX5_saying_78 (q := 79) rfl (fun v8_ => ?_)
            refine s_on (fun hk9_ => ?_)
            refine s_callv (fun r0 hr0 => runV o hk9_ cv_X5_161 (c_X1_weigh (xG X) f a3_ a4_ a5_ v8_ h (xl X) r0 hr0) ⟨Nat.le_of_ble_eq_true rfl, Nat.le_of_ble_eq_true rfl⟩ rfl rfl (Nat.le_of_ble_eq_true rfl) dX5_saying_79 ⟨Nat.le_of_ble_eq_true rfl, Nat.le_of_ble_eq_true rfl⟩) (q := 82) rfl (cs' := 0) rfl (sl' := 0) rfl (fun h10_ => ?_)
            refine s_aload_n o 0 rfl dX5_saying_82 (q := 83) rfl ?_
            refine s_gr o kf_X5_62 dX5_saying_83 (q := 86) rfl (fun a11_ => ?_)
            refine s_aload_n o 0 rfl dX5_saying_86 (q := 87) rfl ?_
            refine s_gr o kf_X5_55 dX5_saying_87 (q := 90) rfl (fun a12_ => ?_)
            refine s_gr o kf_X5_228 dX5_saying_90 (q := 93) rfl (fun a13_ => ?_)
            refine s_iload_n o 1 rfl dX5_saying_93 (q := 94) rfl ?_
            refine s_iald o dX5_saying_94 (q := 95) rfl (fun v14_ => ?_)
            refine s_aload_n o 0 rfl dX5_saying_95 (q := 96) rfl ?_
            refine s_gr o kf_X5_55 dX5_saying_96 (q := 99) rfl (fun a15_ => ?_)
            refine s_gr o kf_X5_231 dX5_saying_99 (q := 102) rfl (fun a16_ => ?_)
            refine s_iload_n o 1 rfl dX5_saying_102 (q := 103) rfl ?_
            refine s_zald o dX5_saying_103 (q := 104) rfl (fun v17_ => ?_)
            refine s_on (fun hk18_ => ?_)
            refine s_bi (fun r0 hr0 => runV o hk18_ cv_X5_233 (c_X1_ofHundred (xG X) f a11_ v14_ v17_ h10_ (xl X) r0 hr0) ⟨Nat.le_of_ble_eq_true rfl, Nat.le_of_ble_eq_true rfl⟩ rfl rfl (Nat.le_of_ble_eq_true rfl) dX5_saying_104 ⟨Nat.le_of_ble_eq_true rfl, Nat.le_of_ble_eq_true rfl⟩) (q := 107) rfl (cs' := 0) rfl (sl' := 0) rfl (fun v20_ h19_ => ?_)
            exact s_iret o dX5_saying_107
          · refine s_aload_n o 0 rfl dX5_saying_34 (q := 35) rfl ?_
            refine s_gr o kf_X5_55 dX5_saying_35 (q := 38) rfl (fun a21_ => ?_)
            refine s_iload_n o 1 rfl dX5_saying_38 (q := 39) rfl ?_
            refine s_aload_n o 0 rfl dX5_saying_39 (q := 40) rfl ?_
            refine s_gr o kf_X5_23 dX5_saying_40 (q := 43) rfl (fun a22_ => ?_)
            refine s_gi o kf_X5_219 dX5_saying_43 (q := 46) rfl (fun v23_ => ?_)
            refine s_on (fun hk24_ => ?_)
            refine s_bi (fun r0 hr0 => runV o hk24_ cv_X5_222 (c_X3_isTrue (xG X) f a21_ x1 v23_ h (xl X) r0 hr0) ⟨Nat.le_of_ble_eq_true rfl, Nat.le_of_ble_eq_true rfl⟩ rfl rfl (Nat.le_of_ble_eq_true rfl) dX5_saying_46 ⟨Nat.le_of_ble_eq_true rfl, Nat.le_of_ble_eq_true rfl⟩) (q := 49) rfl (cs' := 0) rfl (sl' := 0) rfl (fun v26_ h25_ => ?_)
            refine s_if_eq o (tgt := 56) dX5_saying_49 (by decide) (q := 52) rfl ?_ ?_
            · refine s_iconst o dX5_saying_56 (v := (0 : Int32)) (by decide) (q := 57) rfl ?_
              exact s_sub [] rfl (t_X5_saying_57 o f (0 : Int32) h25_)
            · refine s_iconst o dX5_saying_52 (v := (1 : Int32)) (by decide) (q := 53) rfl ?_
              refine s_goto o (tgt := 57) dX5_saying_53 (by decide) ?_
              exact s_sub [] rfl (t_X5_saying_57 o f (1 : Int32) h25_)
        · exact s_sub [] rfl (t_X5_saying_27 o f h)
    · exact s_sub [] rfl (t_X5_saying_15 o f h)
theorem c_X5_saying (G : Gx) (f : Nat) (x0 : Nat) (x1 : Int32) (x2 : Int32) (h : Hp) : z_M z_qi G yX5_saying cX5_saying 3 (some .int) 6 133 0 0 [rf G x0, .int x1, .int x2] h (f_X5_saying f x0 x1 x2 h) :=
  z_met (by decide +kernel) (Nat.le_of_ble_eq_true rfl) (fun X hG hn o hnm => by
    subst hG
    show Sim X (z_Zi X 0 0) 0 0 0 [(0, rf (xG X) x0), (1, .int x1), (2, .int x2)] [] h _
    exact s_sub [0, 1, 2] rfl (t_X5_saying_0 o f x0 x1 x2 h))
/-! SixMaps.seed(I)I -/
def f_X5_seed (f : Nat)  (x0 : Nat) (x1 : Int32) (h : Hp) : Option (Int32 × Hp) :=
  if 0 ≤ x1 then
  ((q_gr h x0 5 6).bind fun a1_ =>
  (q_gi h a1_ 4 6).bind fun v2_ =>
  (q_gr h x0 5 6).bind fun a3_ =>
  (q_pi h a3_ 4 6 x1).bind fun h4_ =>
  some (v2_, h4_))
  else
  (some ((-1000002 : Int32), h))
set_option maxRecDepth 20000 in
theorem t_X5_seed_0 {X : Cx} (o : Ok X RX5 cX5_seed 3 0 0 0 0 (some .int)) (f : Nat)  (x0 : Nat) (x1 : Int32) (h : Hp) : Sim X (z_Zi X 0 0) 0 0 0 [(0, rf (xG X) x0), (1, .int x1)] [] h (f_X5_seed f x0 x1 h) := by
  unfold f_X5_seed
  refine s_iload_n o 1 rfl dX5_seed_0 (q := 1) rfl ?_
  refine s_if_ge o (tgt := 7) dX5_seed_1 (by decide) (q := 4) rfl ?_ ?_
  · refine s_aload_n o 0 rfl dX5_seed_7 (q := 8) rfl ?_
    refine s_gr o kf_X5_40 dX5_seed_8 (q := 11) rfl (fun a1_ => ?_)
    refine s_gi o kf_X5_243 dX5_seed_11 (q := 14) rfl (fun v2_ => ?_)
    refine s_istore_n o [1, 2, 0] (lv' := [(0, rf (xG X) x0), (1, .int x1), (2, .int v2_)]) rfl dX5_seed_14 (by decide) (q := 15) rfl ?_
    refine s_aload_n o 0 rfl dX5_seed_15 (q := 16) rfl ?_
    refine s_gr o kf_X5_40 dX5_seed_16 (q := 19) rfl (fun a3_ => ?_)
    refine s_iload_n o 1 rfl dX5_seed_19 (q := 20) rfl ?_
    refine s_pi o kf_X5_243 dX5_seed_20 (q := 23) rfl (fun h4_ => ?_)
    refine s_iload_n o 2 rfl dX5_seed_23 (q := 24) rfl ?_
    exact s_iret o dX5_seed_24
  · refine s_ldc o kc_X5_66 dX5_seed_4 (q := 6) rfl ?_
    exact s_iret o dX5_seed_6
theorem c_X5_seed (G : Gx) (f : Nat) (x0 : Nat) (x1 : Int32) (h : Hp) : z_M z_qi G yX5_seed cX5_seed 3 (some .int) 0 0 0 0 [rf G x0, .int x1] h (f_X5_seed f x0 x1 h) :=
  z_met (by decide +kernel) (Nat.le_of_ble_eq_true rfl) (fun X hG hn o hnm => by
    subst hG
    show Sim X (z_Zi X 0 0) 0 0 0 [(0, rf (xG X) x0), (1, .int x1)] [] h _
    exact s_sub [0, 1] rfl (t_X5_seed_0 o f x0 x1 h))
/-! SixMaps.show(III)I -/
def b_X5_show_16 (f : Nat)   (h : Hp) : Option (Int32 × Hp) :=
  some ((-1000001 : Int32), h)
def f_X5_show (f : Nat)  (x0 : Nat) (x1 : Int32) (x2 : Int32) (x3 : Int32) (h : Hp) : Option (Int32 × Hp) :=
  bi (f_X5_areTwoBands f x1 x2 h) fun v2_ h1_ =>
  if v2_ = 0 then
  (b_X5_show_16 f h1_)
  else
  (q_on h1_ x0 5 (
  bi (f_X5_isMark f x0 x3 h1_) fun v5_ h4_ =>
  if ¬ v5_ = 0 then
  ((q_gr h4_ x0 5 6).bind fun a6_ =>
  q_on h4_ a6_ 4 (
  bi (f_X4_has f a6_ x2 x1 x3 h4_) fun v9_ h8_ =>
  if v9_ = 0 then
  ((q_gr h8_ x0 5 6).bind fun a10_ =>
  q_on h8_ a10_ 4 (
  (f_X4_learn f a10_ x2 x1 x3 h8_).bind fun h12_ =>
  (q_gr h12_ x0 5 6).bind fun a13_ =>
  (q_gr h12_ a13_ 4 0).bind fun a14_ =>
  (q_ai h12_ a14_ 9 ((x2 * (6 : Int32)) + x1)).bind fun v15_ =>
  bi (f_J6_bitCount_0f7a4 f v15_ h12_) fun v17_ h16_ =>
  some (v17_, h16_)))
  else
  (some ((-1000003 : Int32), h8_))))
  else
  (b_X5_show_16 f h4_)))
set_option maxRecDepth 20000 in
theorem t_X5_show_16 {X : Cx} (o : Ok X RX5 cX5_show 4 2 44 0 0 (some .int)) (f : Nat)   (h : Hp) : Sim X (z_Zi X 0 0) 0 0 16 [] [] h (b_X5_show_16 f h) := by
  unfold b_X5_show_16
  refine s_ldc o kc_X5_116 dX5_show_16 (q := 18) rfl ?_
  exact s_iret o dX5_show_18
set_option maxRecDepth 20000 in
theorem t_X5_show_0 {X : Cx} (o : Ok X RX5 cX5_show 4 2 44 0 0 (some .int)) (f : Nat)  (x0 : Nat) (x1 : Int32) (x2 : Int32) (x3 : Int32) (h : Hp) : Sim X (z_Zi X 0 0) 0 0 0 [(0, rf (xG X) x0), (1, .int x1), (2, .int x2), (3, .int x3)] [] h (f_X5_show f x0 x1 x2 x3 h) := by
  unfold f_X5_show
  refine s_iload_n o 1 rfl dX5_show_0 (q := 1) rfl ?_
  refine s_iload_n o 2 rfl dX5_show_1 (q := 2) rfl ?_
  refine s_bi (fun r0 hr0 => runS o cs_X5_137 (c_X5_areTwoBands (xG X) f x1 x2 h (xl X) r0 hr0) ⟨Nat.le_of_ble_eq_true rfl, Nat.le_of_ble_eq_true rfl⟩ rfl rfl (Nat.le_of_ble_eq_true rfl) dX5_show_2 ⟨Nat.le_of_ble_eq_true rfl, Nat.le_of_ble_eq_true rfl⟩) (q := 5) rfl (cs' := 0) rfl (sl' := 0) rfl (fun v2_ h1_ => ?_)
  refine s_if_eq o (tgt := 16) dX5_show_5 (by decide) (q := 8) rfl ?_ ?_
  · exact s_sub [] rfl (t_X5_show_16 o f h1_)
  · refine s_aload_n o 0 rfl dX5_show_8 (q := 9) rfl ?_
    refine s_iload_n o 3 rfl dX5_show_9 (q := 10) rfl ?_
    refine s_on (fun hk3_ => ?_)
    refine s_bi (fun r0 hr0 => runV o hk3_ cv_X5_112 (c_X5_isMark (xG X) f x0 x3 h1_ (xl X) r0 hr0) ⟨Nat.le_of_ble_eq_true rfl, Nat.le_of_ble_eq_true rfl⟩ rfl rfl (Nat.le_of_ble_eq_true rfl) dX5_show_10 ⟨Nat.le_of_ble_eq_true rfl, Nat.le_of_ble_eq_true rfl⟩) (q := 13) rfl (cs' := 0) rfl (sl' := 0) rfl (fun v5_ h4_ => ?_)
    refine s_if_ne o (tgt := 19) dX5_show_13 (by decide) (q := 16) rfl ?_ ?_
    · refine s_aload_n o 0 rfl dX5_show_19 (q := 20) rfl ?_
      refine s_gr o kf_X5_40 dX5_show_20 (q := 23) rfl (fun a6_ => ?_)
      refine s_iload_n o 2 rfl dX5_show_23 (q := 24) rfl ?_
      refine s_iload_n o 1 rfl dX5_show_24 (q := 25) rfl ?_
      refine s_iload_n o 3 rfl dX5_show_25 (q := 26) rfl ?_
      refine s_on (fun hk7_ => ?_)
      refine s_bi (fun r0 hr0 => runV o hk7_ cv_X5_141 (c_X4_has (xG X) f a6_ x2 x1 x3 h4_ (xl X) r0 hr0) ⟨Nat.le_of_ble_eq_true rfl, Nat.le_of_ble_eq_true rfl⟩ rfl rfl (Nat.le_of_ble_eq_true rfl) dX5_show_26 ⟨Nat.le_of_ble_eq_true rfl, Nat.le_of_ble_eq_true rfl⟩) (q := 29) rfl (cs' := 0) rfl (sl' := 0) rfl (fun v9_ h8_ => ?_)
      refine s_if_eq o (tgt := 35) dX5_show_29 (by decide) (q := 32) rfl ?_ ?_
      · refine s_aload_n o 0 rfl dX5_show_35 (q := 36) rfl ?_
        refine s_gr o kf_X5_40 dX5_show_36 (q := 39) rfl (fun a10_ => ?_)
        refine s_iload_n o 2 rfl dX5_show_39 (q := 40) rfl ?_
        refine s_iload_n o 1 rfl dX5_show_40 (q := 41) rfl ?_
        refine s_iload_n o 3 rfl dX5_show_41 (q := 42) rfl ?_
        refine s_on (fun hk11_ => ?_)
        refine s_callv (fun r0 hr0 => runV o hk11_ cv_X5_145 (c_X4_learn (xG X) f a10_ x2 x1 x3 h8_ (xl X) r0 hr0) ⟨Nat.le_of_ble_eq_true rfl, Nat.le_of_ble_eq_true rfl⟩ rfl rfl (Nat.le_of_ble_eq_true rfl) dX5_show_42 ⟨Nat.le_of_ble_eq_true rfl, Nat.le_of_ble_eq_true rfl⟩) (q := 45) rfl (cs' := 0) rfl (sl' := 0) rfl (fun h12_ => ?_)
        refine s_aload_n o 0 rfl dX5_show_45 (q := 46) rfl ?_
        refine s_gr o kf_X5_40 dX5_show_46 (q := 49) rfl (fun a13_ => ?_)
        refine s_gr o kf_X5_134 dX5_show_49 (q := 52) rfl (fun a14_ => ?_)
        refine s_iload_n o 2 rfl dX5_show_52 (q := 53) rfl ?_
        refine s_bipush o dX5_show_53 (v := (6 : Int32)) (by decide) (q := 55) rfl ?_
        refine s_imul o dX5_show_55 (q := 56) rfl ?_
        refine s_iload_n o 1 rfl dX5_show_56 (q := 57) rfl ?_
        refine s_iadd o dX5_show_57 (q := 58) rfl ?_
        refine s_iald o dX5_show_58 (q := 59) rfl (fun v15_ => ?_)
        refine s_bi (fun r0 hr0 => runS o cs_X5_149 (c_J6_bitCount_0f7a4 (xG X) f v15_ h12_ (xl X) r0 hr0) ⟨Nat.le_of_ble_eq_true rfl, Nat.le_of_ble_eq_true rfl⟩ rfl rfl (Nat.le_of_ble_eq_true rfl) dX5_show_59 ⟨Nat.le_of_ble_eq_true rfl, Nat.le_of_ble_eq_true rfl⟩) (q := 62) rfl (cs' := 0) rfl (sl' := 0) rfl (fun v17_ h16_ => ?_)
        exact s_iret o dX5_show_62
      · refine s_ldc o kc_X5_133 dX5_show_32 (q := 34) rfl ?_
        exact s_iret o dX5_show_34
    · exact s_sub [] rfl (t_X5_show_16 o f h4_)
theorem c_X5_show (G : Gx) (f : Nat) (x0 : Nat) (x1 : Int32) (x2 : Int32) (x3 : Int32) (h : Hp) : z_M z_qi G yX5_show cX5_show 4 (some .int) 2 44 0 0 [rf G x0, .int x1, .int x2, .int x3] h (f_X5_show f x0 x1 x2 x3 h) :=
  z_met (by decide +kernel) (Nat.le_of_ble_eq_true rfl) (fun X hG hn o hnm => by
    subst hG
    show Sim X (z_Zi X 0 0) 0 0 0 [(0, rf (xG X) x0), (1, .int x1), (2, .int x2), (3, .int x3)] [] h _
    exact s_sub [0, 1, 2, 3] rfl (t_X5_show_0 o f x0 x1 x2 x3 h))
/-! SixMaps.spades(I)I -/
def f_X5_spades (f : Nat)  (x0 : Nat) (x1 : Int32) (h : Hp) : Option (Int32 × Hp) :=
  bi (f_X5_isBand f x1 h) fun v2_ h1_ =>
  if ¬ v2_ = 0 then
  ((q_gr h1_ x0 5 10).bind fun a3_ =>
  (q_gr h1_ x0 5 3).bind fun a4_ =>
  (q_gr h1_ x0 5 6).bind fun a5_ =>
  q_on h1_ a3_ 1 (
  (f_X1_weigh f a3_ a4_ a5_ x1 h1_).bind fun h7_ =>
  (q_gr h7_ x0 5 10).bind fun a8_ =>
  q_on h7_ a8_ 1 (
  bi (f_X1_unlikePlaces f a8_ h7_) fun v11_ h10_ =>
  some (v11_, h10_))))
  else
  (some ((-1000001 : Int32), h1_))
set_option maxRecDepth 20000 in
theorem t_X5_spades_0 {X : Cx} (o : Ok X RX5 cX5_spades 2 6 133 0 0 (some .int)) (f : Nat)  (x0 : Nat) (x1 : Int32) (h : Hp) : Sim X (z_Zi X 0 0) 0 0 0 [(0, rf (xG X) x0), (1, .int x1)] [] h (f_X5_spades f x0 x1 h) := by
  unfold f_X5_spades
  refine s_iload_n o 1 rfl dX5_spades_0 (q := 1) rfl ?_
  refine s_bi (fun r0 hr0 => runS o cs_X5_124 (c_X5_isBand (xG X) f x1 h (xl X) r0 hr0) ⟨Nat.le_of_ble_eq_true rfl, Nat.le_of_ble_eq_true rfl⟩ rfl rfl (Nat.le_of_ble_eq_true rfl) dX5_spades_1 ⟨Nat.le_of_ble_eq_true rfl, Nat.le_of_ble_eq_true rfl⟩) (q := 4) rfl (cs' := 0) rfl (sl' := 0) rfl (fun v2_ h1_ => ?_)
  refine s_if_ne o (tgt := 10) dX5_spades_4 (by decide) (q := 7) rfl ?_ ?_
  · refine s_aload_n o 0 rfl dX5_spades_10 (q := 11) rfl ?_
    refine s_gr o kf_X5_62 dX5_spades_11 (q := 14) rfl (fun a3_ => ?_)
    refine s_aload_n o 0 rfl dX5_spades_14 (q := 15) rfl ?_
    refine s_gr o kf_X5_23 dX5_spades_15 (q := 18) rfl (fun a4_ => ?_)
    refine s_aload_n o 0 rfl dX5_spades_18 (q := 19) rfl ?_
    refine s_gr o kf_X5_40 dX5_spades_19 (q := 22) rfl (fun a5_ => ?_)
    refine s_iload_n o 1 rfl dX5_spades_22 (q := 23) rfl ?_
    refine s_on (fun hk6_ => ?_)
    refine s_callv (fun r0 hr0 => runV o hk6_ cv_X5_161 (c_X1_weigh (xG X) f a3_ a4_ a5_ x1 h1_ (xl X) r0 hr0) ⟨Nat.le_of_ble_eq_true rfl, Nat.le_of_ble_eq_true rfl⟩ rfl rfl (Nat.le_of_ble_eq_true rfl) dX5_spades_23 ⟨Nat.le_of_ble_eq_true rfl, Nat.le_of_ble_eq_true rfl⟩) (q := 26) rfl (cs' := 0) rfl (sl' := 0) rfl (fun h7_ => ?_)
    refine s_aload_n o 0 rfl dX5_spades_26 (q := 27) rfl ?_
    refine s_gr o kf_X5_62 dX5_spades_27 (q := 30) rfl (fun a8_ => ?_)
    refine s_on (fun hk9_ => ?_)
    refine s_bi (fun r0 hr0 => runV o hk9_ cv_X5_204 (c_X1_unlikePlaces (xG X) f a8_ h7_ (xl X) r0 hr0) ⟨Nat.le_of_ble_eq_true rfl, Nat.le_of_ble_eq_true rfl⟩ rfl rfl (Nat.le_of_ble_eq_true rfl) dX5_spades_30 ⟨Nat.le_of_ble_eq_true rfl, Nat.le_of_ble_eq_true rfl⟩) (q := 33) rfl (cs' := 0) rfl (sl' := 0) rfl (fun v11_ h10_ => ?_)
    exact s_iret o dX5_spades_33
  · refine s_ldc o kc_X5_116 dX5_spades_7 (q := 9) rfl ?_
    exact s_iret o dX5_spades_9
theorem c_X5_spades (G : Gx) (f : Nat) (x0 : Nat) (x1 : Int32) (h : Hp) : z_M z_qi G yX5_spades cX5_spades 2 (some .int) 6 133 0 0 [rf G x0, .int x1] h (f_X5_spades f x0 x1 h) :=
  z_met (by decide +kernel) (Nat.le_of_ble_eq_true rfl) (fun X hG hn o hnm => by
    subst hG
    show Sim X (z_Zi X 0 0) 0 0 0 [(0, rf (xG X) x0), (1, .int x1)] [] h _
    exact s_sub [0, 1] rfl (t_X5_spades_0 o f x0 x1 h))
/-! SixMaps.sure(II)I -/
def b_X5_sure_71 (f : Nat)  (y0 : Int32) (h : Hp) : Option (Int32 × Hp) :=
  some (y0, h)
def b_X5_sure_19 (f : Nat)   (h : Hp) : Option (Int32 × Hp) :=
  some ((-1000002 : Int32), h)
def f_X5_sure (f : Nat)  (x0 : Nat) (x1 : Int32) (x2 : Int32) (h : Hp) : Option (Int32 × Hp) :=
  bi (f_X5_isBand f x1 h) fun v2_ h1_ =>
  if ¬ v2_ = 0 then
  (if x2 < 0 then
  (b_X5_sure_19 f h1_)
  else
  (if x2 ≤ (1 : Int32) then
  ((q_gr h1_ x0 5 10).bind fun a3_ =>
  (q_gr h1_ x0 5 3).bind fun a4_ =>
  (q_gr h1_ x0 5 6).bind fun a5_ =>
  q_on h1_ a3_ 1 (
  (f_X1_weigh f a3_ a4_ a5_ x1 h1_).bind fun h7_ =>
  (q_gr h7_ x0 5 10).bind fun a8_ =>
  (q_gi h7_ a8_ 1 12).bind fun v9_ =>
  if ¬ v9_ = 0 then
  (if ¬ x2 = 0 then
  ((q_gr h7_ x0 5 10).bind fun a10_ =>
  q_on h7_ a10_ 1 (
  bi (f_X1_inNone f a10_ h7_) fun v13_ h12_ =>
  b_X5_sure_71 f v13_ h12_))
  else
  ((q_gr h7_ x0 5 10).bind fun a14_ =>
  q_on h7_ a14_ 1 (
  bi (f_X1_inAll f a14_ h7_) fun v17_ h16_ =>
  b_X5_sure_71 f v17_ h16_)))
  else
  (some ((-1 : Int32), h7_))))
  else
  (b_X5_sure_19 f h1_)))
  else
  (some ((-1000001 : Int32), h1_))
set_option maxRecDepth 20000 in
theorem t_X5_sure_71 {X : Cx} (o : Ok X RX5 cX5_sure 3 6 133 0 0 (some .int)) (f : Nat)  (y0 : Int32) (h : Hp) : Sim X (z_Zi X 0 0) 0 0 71 [] [.int y0] h (b_X5_sure_71 f y0 h) := by
  unfold b_X5_sure_71
  exact s_iret o dX5_sure_71
set_option maxRecDepth 20000 in
theorem t_X5_sure_19 {X : Cx} (o : Ok X RX5 cX5_sure 3 6 133 0 0 (some .int)) (f : Nat)   (h : Hp) : Sim X (z_Zi X 0 0) 0 0 19 [] [] h (b_X5_sure_19 f h) := by
  unfold b_X5_sure_19
  refine s_ldc o kc_X5_66 dX5_sure_19 (q := 21) rfl ?_
  exact s_iret o dX5_sure_21
set_option maxRecDepth 20000 in
theorem t_X5_sure_0 {X : Cx} (o : Ok X RX5 cX5_sure 3 6 133 0 0 (some .int)) (f : Nat)  (x0 : Nat) (x1 : Int32) (x2 : Int32) (h : Hp) : Sim X (z_Zi X 0 0) 0 0 0 [(0, rf (xG X) x0), (1, .int x1), (2, .int x2)] [] h (f_X5_sure f x0 x1 x2 h) := by
  unfold f_X5_sure
  refine s_iload_n o 1 rfl dX5_sure_0 (q := 1) rfl ?_
  refine s_bi (fun r0 hr0 => runS o cs_X5_124 (c_X5_isBand (xG X) f x1 h (xl X) r0 hr0) ⟨Nat.le_of_ble_eq_true rfl, Nat.le_of_ble_eq_true rfl⟩ rfl rfl (Nat.le_of_ble_eq_true rfl) dX5_sure_1 ⟨Nat.le_of_ble_eq_true rfl, Nat.le_of_ble_eq_true rfl⟩) (q := 4) rfl (cs' := 0) rfl (sl' := 0) rfl (fun v2_ h1_ => ?_)
  refine s_if_ne o (tgt := 10) dX5_sure_4 (by decide) (q := 7) rfl ?_ ?_
  · refine s_iload_n o 2 rfl dX5_sure_10 (q := 11) rfl ?_
    refine s_if_lt o (tgt := 19) dX5_sure_11 (by decide) (q := 14) rfl ?_ ?_
    · exact s_sub [] rfl (t_X5_sure_19 o f h1_)
    · refine s_iload_n o 2 rfl dX5_sure_14 (q := 15) rfl ?_
      refine s_iconst o dX5_sure_15 (v := (1 : Int32)) (by decide) (q := 16) rfl ?_
      refine s_ic_le o (tgt := 22) dX5_sure_16 (by decide) (q := 19) rfl ?_ ?_
      · refine s_aload_n o 0 rfl dX5_sure_22 (q := 23) rfl ?_
        refine s_gr o kf_X5_62 dX5_sure_23 (q := 26) rfl (fun a3_ => ?_)
        refine s_aload_n o 0 rfl dX5_sure_26 (q := 27) rfl ?_
        refine s_gr o kf_X5_23 dX5_sure_27 (q := 30) rfl (fun a4_ => ?_)
        refine s_aload_n o 0 rfl dX5_sure_30 (q := 31) rfl ?_
        refine s_gr o kf_X5_40 dX5_sure_31 (q := 34) rfl (fun a5_ => ?_)
        refine s_iload_n o 1 rfl dX5_sure_34 (q := 35) rfl ?_
        refine s_on (fun hk6_ => ?_)
        refine s_callv (fun r0 hr0 => runV o hk6_ cv_X5_161 (c_X1_weigh (xG X) f a3_ a4_ a5_ x1 h1_ (xl X) r0 hr0) ⟨Nat.le_of_ble_eq_true rfl, Nat.le_of_ble_eq_true rfl⟩ rfl rfl (Nat.le_of_ble_eq_true rfl) dX5_sure_35 ⟨Nat.le_of_ble_eq_true rfl, Nat.le_of_ble_eq_true rfl⟩) (q := 38) rfl (cs' := 0) rfl (sl' := 0) rfl (fun h7_ => ?_)
        refine s_aload_n o 0 rfl dX5_sure_38 (q := 39) rfl ?_
        refine s_gr o kf_X5_62 dX5_sure_39 (q := 42) rfl (fun a8_ => ?_)
        refine s_gi o kf_X5_165 dX5_sure_42 (q := 45) rfl (fun v9_ => ?_)
        refine s_if_ne o (tgt := 50) dX5_sure_45 (by decide) (q := 48) rfl ?_ ?_
        · refine s_iload_n o 2 rfl dX5_sure_50 (q := 51) rfl ?_
          refine s_if_ne o (tgt := 64) dX5_sure_51 (by decide) (q := 54) rfl ?_ ?_
          · refine s_aload_n o 0 rfl dX5_sure_64 (q := 65) rfl ?_
            refine s_gr o kf_X5_62 dX5_sure_65 (q := 68) rfl (fun a10_ => ?_)
            refine s_on (fun hk11_ => ?_)
            refine s_bi (fun r0 hr0 => runV o hk11_ cv_X5_173 (c_X1_inNone (xG X) f a10_ h7_ (xl X) r0 hr0) ⟨Nat.le_of_ble_eq_true rfl, Nat.le_of_ble_eq_true rfl⟩ rfl rfl (Nat.le_of_ble_eq_true rfl) dX5_sure_68 ⟨Nat.le_of_ble_eq_true rfl, Nat.le_of_ble_eq_true rfl⟩) (q := 71) rfl (cs' := 0) rfl (sl' := 0) rfl (fun v13_ h12_ => ?_)
            exact s_sub [] rfl (t_X5_sure_71 o f v13_ h12_)
          · refine s_aload_n o 0 rfl dX5_sure_54 (q := 55) rfl ?_
            refine s_gr o kf_X5_62 dX5_sure_55 (q := 58) rfl (fun a14_ => ?_)
            refine s_on (fun hk15_ => ?_)
            refine s_bi (fun r0 hr0 => runV o hk15_ cv_X5_169 (c_X1_inAll (xG X) f a14_ h7_ (xl X) r0 hr0) ⟨Nat.le_of_ble_eq_true rfl, Nat.le_of_ble_eq_true rfl⟩ rfl rfl (Nat.le_of_ble_eq_true rfl) dX5_sure_58 ⟨Nat.le_of_ble_eq_true rfl, Nat.le_of_ble_eq_true rfl⟩) (q := 61) rfl (cs' := 0) rfl (sl' := 0) rfl (fun v17_ h16_ => ?_)
            refine s_goto o (tgt := 71) dX5_sure_61 (by decide) ?_
            exact s_sub [] rfl (t_X5_sure_71 o f v17_ h16_)
        · refine s_iconst o dX5_sure_48 (v := (-1 : Int32)) (by decide) (q := 49) rfl ?_
          exact s_iret o dX5_sure_49
      · exact s_sub [] rfl (t_X5_sure_19 o f h1_)
  · refine s_ldc o kc_X5_116 dX5_sure_7 (q := 9) rfl ?_
    exact s_iret o dX5_sure_9
theorem c_X5_sure (G : Gx) (f : Nat) (x0 : Nat) (x1 : Int32) (x2 : Int32) (h : Hp) : z_M z_qi G yX5_sure cX5_sure 3 (some .int) 6 133 0 0 [rf G x0, .int x1, .int x2] h (f_X5_sure f x0 x1 x2 h) :=
  z_met (by decide +kernel) (Nat.le_of_ble_eq_true rfl) (fun X hG hn o hnm => by
    subst hG
    show Sim X (z_Zi X 0 0) 0 0 0 [(0, rf (xG X) x0), (1, .int x1), (2, .int x2)] [] h _
    exact s_sub [0, 1, 2] rfl (t_X5_sure_0 o f x0 x1 x2 h))
/-! SixMaps.told(I)I -/
def f_X5_told (f : Nat)  (x0 : Nat) (x1 : Int32) (h : Hp) : Option (Int32 × Hp) :=
  sw x1 0 [
  ((q_gr h x0 5 3).bind fun a1_ =>
  (q_gi h a1_ 0 4).bind fun v2_ =>
  some (v2_, h)), 
  ((q_gr h x0 5 3).bind fun a3_ =>
  (q_gi h a3_ 0 6).bind fun v4_ =>
  some (v4_, h)), 
  ((q_gr h x0 5 3).bind fun a5_ =>
  (q_gi h a5_ 0 7).bind fun v6_ =>
  some (v6_, h)), 
  ((q_gr h x0 5 3).bind fun a7_ =>
  (q_gi h a7_ 0 8).bind fun v8_ =>
  some (v8_, h)), 
  ((q_gr h x0 5 3).bind fun a9_ =>
  (q_gi h a9_ 0 9).bind fun v10_ =>
  some (v10_, h)), 
  ((q_gr h x0 5 3).bind fun a11_ =>
  (q_gi h a11_ 0 10).bind fun v12_ =>
  some (v12_, h)), 
  ((q_gr h x0 5 3).bind fun a13_ =>
  (q_gi h a13_ 0 11).bind fun v14_ =>
  some (v14_, h)), 
  ((q_gr h x0 5 3).bind fun a15_ =>
  (q_gi h a15_ 0 12).bind fun v16_ =>
  some (v16_, h)), 
  ((q_gi h x0 5 1).bind fun v17_ =>
  some (v17_, h)), 
  ((q_gr h x0 5 6).bind fun a18_ =>
  (q_gi h a18_ 4 4).bind fun v19_ =>
  some (v19_, h)), 
  ((q_gr h x0 5 9).bind fun a20_ =>
  (q_gi h a20_ 3 3).bind fun v21_ =>
  some (v21_, h)), 
  ((q_gr h x0 5 6).bind fun a22_ =>
  (q_gi h a22_ 4 5).bind fun v23_ =>
  some (v23_, h))] (some ((-1000002 : Int32), h))
set_option maxRecDepth 20000 in
theorem t_X5_told_0 {X : Cx} (o : Ok X RX5 cX5_told 2 0 0 0 0 (some .int)) (f : Nat)  (x0 : Nat) (x1 : Int32) (h : Hp) : Sim X (z_Zi X 0 0) 0 0 0 [(0, rf (xG X) x0), (1, .int x1)] [] h (f_X5_told f x0 x1 h) := by
  unfold f_X5_told
  refine s_iload_n o 1 rfl dX5_told_0 (q := 1) rfl ?_
  refine s_sw o dX5_told_1 rfl (tgD := 157) (by decide) ?_ (⟨⟨64, by decide, ?_⟩, ⟨72, by decide, ?_⟩, ⟨80, by decide, ?_⟩, ⟨88, by decide, ?_⟩, ⟨96, by decide, ?_⟩, ⟨104, by decide, ?_⟩, ⟨112, by decide, ?_⟩, ⟨120, by decide, ?_⟩, ⟨128, by decide, ?_⟩, ⟨133, by decide, ?_⟩, ⟨141, by decide, ?_⟩, ⟨149, by decide, ?_⟩, trivial⟩)
  · refine s_ldc o kc_X5_66 dX5_told_157 (q := 159) rfl ?_
    exact s_iret o dX5_told_159
  · refine s_aload_n o 0 rfl dX5_told_64 (q := 65) rfl ?_
    refine s_gr o kf_X5_23 dX5_told_65 (q := 68) rfl (fun a1_ => ?_)
    refine s_gi o kf_X5_75 dX5_told_68 (q := 71) rfl (fun v2_ => ?_)
    exact s_iret o dX5_told_71
  · refine s_aload_n o 0 rfl dX5_told_72 (q := 73) rfl ?_
    refine s_gr o kf_X5_23 dX5_told_73 (q := 76) rfl (fun a3_ => ?_)
    refine s_gi o kf_X5_85 dX5_told_76 (q := 79) rfl (fun v4_ => ?_)
    exact s_iret o dX5_told_79
  · refine s_aload_n o 0 rfl dX5_told_80 (q := 81) rfl ?_
    refine s_gr o kf_X5_23 dX5_told_81 (q := 84) rfl (fun a5_ => ?_)
    refine s_gi o kf_X5_88 dX5_told_84 (q := 87) rfl (fun v6_ => ?_)
    exact s_iret o dX5_told_87
  · refine s_aload_n o 0 rfl dX5_told_88 (q := 89) rfl ?_
    refine s_gr o kf_X5_23 dX5_told_89 (q := 92) rfl (fun a7_ => ?_)
    refine s_gi o kf_X5_91 dX5_told_92 (q := 95) rfl (fun v8_ => ?_)
    exact s_iret o dX5_told_95
  · refine s_aload_n o 0 rfl dX5_told_96 (q := 97) rfl ?_
    refine s_gr o kf_X5_23 dX5_told_97 (q := 100) rfl (fun a9_ => ?_)
    refine s_gi o kf_X5_94 dX5_told_100 (q := 103) rfl (fun v10_ => ?_)
    exact s_iret o dX5_told_103
  · refine s_aload_n o 0 rfl dX5_told_104 (q := 105) rfl ?_
    refine s_gr o kf_X5_23 dX5_told_105 (q := 108) rfl (fun a11_ => ?_)
    refine s_gi o kf_X5_97 dX5_told_108 (q := 111) rfl (fun v12_ => ?_)
    exact s_iret o dX5_told_111
  · refine s_aload_n o 0 rfl dX5_told_112 (q := 113) rfl ?_
    refine s_gr o kf_X5_23 dX5_told_113 (q := 116) rfl (fun a13_ => ?_)
    refine s_gi o kf_X5_100 dX5_told_116 (q := 119) rfl (fun v14_ => ?_)
    exact s_iret o dX5_told_119
  · refine s_aload_n o 0 rfl dX5_told_120 (q := 121) rfl ?_
    refine s_gr o kf_X5_23 dX5_told_121 (q := 124) rfl (fun a15_ => ?_)
    refine s_gi o kf_X5_103 dX5_told_124 (q := 127) rfl (fun v16_ => ?_)
    exact s_iret o dX5_told_127
  · refine s_aload_n o 0 rfl dX5_told_128 (q := 129) rfl ?_
    refine s_gi o kf_X5_13 dX5_told_129 (q := 132) rfl (fun v17_ => ?_)
    exact s_iret o dX5_told_132
  · refine s_aload_n o 0 rfl dX5_told_133 (q := 134) rfl ?_
    refine s_gr o kf_X5_40 dX5_told_134 (q := 137) rfl (fun a18_ => ?_)
    refine s_gi o kf_X5_106 dX5_told_137 (q := 140) rfl (fun v19_ => ?_)
    exact s_iret o dX5_told_140
  · refine s_aload_n o 0 rfl dX5_told_141 (q := 142) rfl ?_
    refine s_gr o kf_X5_55 dX5_told_142 (q := 145) rfl (fun a20_ => ?_)
    refine s_gi o kf_X5_82 dX5_told_145 (q := 148) rfl (fun v21_ => ?_)
    exact s_iret o dX5_told_148
  · refine s_aload_n o 0 rfl dX5_told_149 (q := 150) rfl ?_
    refine s_gr o kf_X5_40 dX5_told_150 (q := 153) rfl (fun a22_ => ?_)
    refine s_gi o kf_X5_109 dX5_told_153 (q := 156) rfl (fun v23_ => ?_)
    exact s_iret o dX5_told_156
theorem c_X5_told (G : Gx) (f : Nat) (x0 : Nat) (x1 : Int32) (h : Hp) : z_M z_qi G yX5_told cX5_told 2 (some .int) 0 0 0 0 [rf G x0, .int x1] h (f_X5_told f x0 x1 h) :=
  z_met (by decide +kernel) (Nat.le_of_ble_eq_true rfl) (fun X hG hn o hnm => by
    subst hG
    show Sim X (z_Zi X 0 0) 0 0 0 [(0, rf (xG X) x0), (1, .int x1)] [] h _
    exact s_sub [0, 1] rfl (t_X5_told_0 o f x0 x1 h))
/-! SixMaps.trade(IIII)I -/
def b_X5_trade_55 (f : Nat)   (h : Hp) : Option (Int32 × Hp) :=
  some ((-1000003 : Int32), h)
def b_X5_trade_25 (f : Nat)   (h : Hp) : Option (Int32 × Hp) :=
  some ((-1000001 : Int32), h)
def f_X5_trade (f : Nat)  (x0 : Nat) (x1 : Int32) (x2 : Int32) (x3 : Int32) (x4 : Int32) (h : Hp) : Option (Int32 × Hp) :=
  bi (f_X5_areTwoBands f x1 x3 h) fun v2_ h1_ =>
  if v2_ = 0 then
  (b_X5_trade_25 f h1_)
  else
  (q_on h1_ x0 5 (
  bi (f_X5_isMark f x0 x2 h1_) fun v5_ h4_ =>
  if v5_ = 0 then
  (b_X5_trade_25 f h4_)
  else
  (q_on h4_ x0 5 (
  bi (f_X5_isMark f x0 x4 h4_) fun v8_ h7_ =>
  if ¬ v8_ = 0 then
  ((q_gr h7_ x0 5 6).bind fun a9_ =>
  q_on h7_ a9_ 4 (
  bi (f_X4_has f a9_ x3 x1 x2 h7_) fun v12_ h11_ =>
  if ¬ v12_ = 0 then
  (b_X5_trade_55 f h11_)
  else
  ((q_gr h11_ x0 5 6).bind fun a13_ =>
  q_on h11_ a13_ 4 (
  bi (f_X4_has f a13_ x1 x3 x4 h11_) fun v16_ h15_ =>
  if v16_ = 0 then
  ((q_gr h15_ x0 5 6).bind fun a17_ =>
  q_on h15_ a17_ 4 (
  (f_X4_learn f a17_ x3 x1 x2 h15_).bind fun h19_ =>
  (q_gr h19_ x0 5 6).bind fun a20_ =>
  q_on h19_ a20_ 4 (
  (f_X4_learn f a20_ x1 x3 x4 h19_).bind fun h22_ =>
  some ((1 : Int32), h22_))))
  else
  (b_X5_trade_55 f h15_)))))
  else
  (b_X5_trade_25 f h7_)))))
set_option maxRecDepth 20000 in
theorem t_X5_trade_55 {X : Cx} (o : Ok X RX5 cX5_trade 5 2 44 0 0 (some .int)) (f : Nat)   (h : Hp) : Sim X (z_Zi X 0 0) 0 0 55 [] [] h (b_X5_trade_55 f h) := by
  unfold b_X5_trade_55
  refine s_ldc o kc_X5_133 dX5_trade_55 (q := 57) rfl ?_
  exact s_iret o dX5_trade_57
set_option maxRecDepth 20000 in
theorem t_X5_trade_25 {X : Cx} (o : Ok X RX5 cX5_trade 5 2 44 0 0 (some .int)) (f : Nat)   (h : Hp) : Sim X (z_Zi X 0 0) 0 0 25 [] [] h (b_X5_trade_25 f h) := by
  unfold b_X5_trade_25
  refine s_ldc o kc_X5_116 dX5_trade_25 (q := 27) rfl ?_
  exact s_iret o dX5_trade_27
set_option maxRecDepth 20000 in
theorem t_X5_trade_0 {X : Cx} (o : Ok X RX5 cX5_trade 5 2 44 0 0 (some .int)) (f : Nat)  (x0 : Nat) (x1 : Int32) (x2 : Int32) (x3 : Int32) (x4 : Int32) (h : Hp) : Sim X (z_Zi X 0 0) 0 0 0 [(0, rf (xG X) x0), (1, .int x1), (2, .int x2), (3, .int x3), (4, .int x4)] [] h (f_X5_trade f x0 x1 x2 x3 x4 h) := by
  unfold f_X5_trade
  refine s_iload_n o 1 rfl dX5_trade_0 (q := 1) rfl ?_
  refine s_iload_n o 3 rfl dX5_trade_1 (q := 2) rfl ?_
  refine s_bi (fun r0 hr0 => runS o cs_X5_137 (c_X5_areTwoBands (xG X) f x1 x3 h (xl X) r0 hr0) ⟨Nat.le_of_ble_eq_true rfl, Nat.le_of_ble_eq_true rfl⟩ rfl rfl (Nat.le_of_ble_eq_true rfl) dX5_trade_2 ⟨Nat.le_of_ble_eq_true rfl, Nat.le_of_ble_eq_true rfl⟩) (q := 5) rfl (cs' := 0) rfl (sl' := 0) rfl (fun v2_ h1_ => ?_)
  refine s_if_eq o (tgt := 25) dX5_trade_5 (by decide) (q := 8) rfl ?_ ?_
  · exact s_sub [] rfl (t_X5_trade_25 o f h1_)
  · refine s_aload_n o 0 rfl dX5_trade_8 (q := 9) rfl ?_
    refine s_iload_n o 2 rfl dX5_trade_9 (q := 10) rfl ?_
    refine s_on (fun hk3_ => ?_)
    refine s_bi (fun r0 hr0 => runV o hk3_ cv_X5_112 (c_X5_isMark (xG X) f x0 x2 h1_ (xl X) r0 hr0) ⟨Nat.le_of_ble_eq_true rfl, Nat.le_of_ble_eq_true rfl⟩ rfl rfl (Nat.le_of_ble_eq_true rfl) dX5_trade_10 ⟨Nat.le_of_ble_eq_true rfl, Nat.le_of_ble_eq_true rfl⟩) (q := 13) rfl (cs' := 0) rfl (sl' := 0) rfl (fun v5_ h4_ => ?_)
    refine s_if_eq o (tgt := 25) dX5_trade_13 (by decide) (q := 16) rfl ?_ ?_
    · exact s_sub [] rfl (t_X5_trade_25 o f h4_)
    · refine s_aload_n o 0 rfl dX5_trade_16 (q := 17) rfl ?_
      refine s_iload o 4 rfl dX5_trade_17 (q := 19) rfl ?_
      refine s_on (fun hk6_ => ?_)
      refine s_bi (fun r0 hr0 => runV o hk6_ cv_X5_112 (c_X5_isMark (xG X) f x0 x4 h4_ (xl X) r0 hr0) ⟨Nat.le_of_ble_eq_true rfl, Nat.le_of_ble_eq_true rfl⟩ rfl rfl (Nat.le_of_ble_eq_true rfl) dX5_trade_19 ⟨Nat.le_of_ble_eq_true rfl, Nat.le_of_ble_eq_true rfl⟩) (q := 22) rfl (cs' := 0) rfl (sl' := 0) rfl (fun v8_ h7_ => ?_)
      refine s_if_ne o (tgt := 28) dX5_trade_22 (by decide) (q := 25) rfl ?_ ?_
      · refine s_aload_n o 0 rfl dX5_trade_28 (q := 29) rfl ?_
        refine s_gr o kf_X5_40 dX5_trade_29 (q := 32) rfl (fun a9_ => ?_)
        refine s_iload_n o 3 rfl dX5_trade_32 (q := 33) rfl ?_
        refine s_iload_n o 1 rfl dX5_trade_33 (q := 34) rfl ?_
        refine s_iload_n o 2 rfl dX5_trade_34 (q := 35) rfl ?_
        refine s_on (fun hk10_ => ?_)
        refine s_bi (fun r0 hr0 => runV o hk10_ cv_X5_141 (c_X4_has (xG X) f a9_ x3 x1 x2 h7_ (xl X) r0 hr0) ⟨Nat.le_of_ble_eq_true rfl, Nat.le_of_ble_eq_true rfl⟩ rfl rfl (Nat.le_of_ble_eq_true rfl) dX5_trade_35 ⟨Nat.le_of_ble_eq_true rfl, Nat.le_of_ble_eq_true rfl⟩) (q := 38) rfl (cs' := 0) rfl (sl' := 0) rfl (fun v12_ h11_ => ?_)
        refine s_if_ne o (tgt := 55) dX5_trade_38 (by decide) (q := 41) rfl ?_ ?_
        · exact s_sub [] rfl (t_X5_trade_55 o f h11_)
        · refine s_aload_n o 0 rfl dX5_trade_41 (q := 42) rfl ?_
          refine s_gr o kf_X5_40 dX5_trade_42 (q := 45) rfl (fun a13_ => ?_)
          refine s_iload_n o 1 rfl dX5_trade_45 (q := 46) rfl ?_
          refine s_iload_n o 3 rfl dX5_trade_46 (q := 47) rfl ?_
          refine s_iload o 4 rfl dX5_trade_47 (q := 49) rfl ?_
          refine s_on (fun hk14_ => ?_)
          refine s_bi (fun r0 hr0 => runV o hk14_ cv_X5_141 (c_X4_has (xG X) f a13_ x1 x3 x4 h11_ (xl X) r0 hr0) ⟨Nat.le_of_ble_eq_true rfl, Nat.le_of_ble_eq_true rfl⟩ rfl rfl (Nat.le_of_ble_eq_true rfl) dX5_trade_49 ⟨Nat.le_of_ble_eq_true rfl, Nat.le_of_ble_eq_true rfl⟩) (q := 52) rfl (cs' := 0) rfl (sl' := 0) rfl (fun v16_ h15_ => ?_)
          refine s_if_eq o (tgt := 58) dX5_trade_52 (by decide) (q := 55) rfl ?_ ?_
          · refine s_aload_n o 0 rfl dX5_trade_58 (q := 59) rfl ?_
            refine s_gr o kf_X5_40 dX5_trade_59 (q := 62) rfl (fun a17_ => ?_)
            refine s_iload_n o 3 rfl dX5_trade_62 (q := 63) rfl ?_
            refine s_iload_n o 1 rfl dX5_trade_63 (q := 64) rfl ?_
            refine s_iload_n o 2 rfl dX5_trade_64 (q := 65) rfl ?_
            refine s_on (fun hk18_ => ?_)
            refine s_callv (fun r0 hr0 => runV o hk18_ cv_X5_145 (c_X4_learn (xG X) f a17_ x3 x1 x2 h15_ (xl X) r0 hr0) ⟨Nat.le_of_ble_eq_true rfl, Nat.le_of_ble_eq_true rfl⟩ rfl rfl (Nat.le_of_ble_eq_true rfl) dX5_trade_65 ⟨Nat.le_of_ble_eq_true rfl, Nat.le_of_ble_eq_true rfl⟩) (q := 68) rfl (cs' := 0) rfl (sl' := 0) rfl (fun h19_ => ?_)
            refine s_aload_n o 0 rfl dX5_trade_68 (q := 69) rfl ?_
            refine s_gr o kf_X5_40 dX5_trade_69 (q := 72) rfl (fun a20_ => ?_)
            refine s_iload_n o 1 rfl dX5_trade_72 (q := 73) rfl ?_
            refine s_iload_n o 3 rfl dX5_trade_73 (q := 74) rfl ?_
            refine s_iload o 4 rfl dX5_trade_74 (q := 76) rfl ?_
            refine s_on (fun hk21_ => ?_)
            refine s_callv (fun r0 hr0 => runV o hk21_ cv_X5_145 (c_X4_learn (xG X) f a20_ x1 x3 x4 h19_ (xl X) r0 hr0) ⟨Nat.le_of_ble_eq_true rfl, Nat.le_of_ble_eq_true rfl⟩ rfl rfl (Nat.le_of_ble_eq_true rfl) dX5_trade_76 ⟨Nat.le_of_ble_eq_true rfl, Nat.le_of_ble_eq_true rfl⟩) (q := 79) rfl (cs' := 0) rfl (sl' := 0) rfl (fun h22_ => ?_)
            refine s_iconst o dX5_trade_79 (v := (1 : Int32)) (by decide) (q := 80) rfl ?_
            exact s_iret o dX5_trade_80
          · exact s_sub [] rfl (t_X5_trade_55 o f h15_)
      · exact s_sub [] rfl (t_X5_trade_25 o f h7_)
theorem c_X5_trade (G : Gx) (f : Nat) (x0 : Nat) (x1 : Int32) (x2 : Int32) (x3 : Int32) (x4 : Int32) (h : Hp) : z_M z_qi G yX5_trade cX5_trade 5 (some .int) 2 44 0 0 [rf G x0, .int x1, .int x2, .int x3, .int x4] h (f_X5_trade f x0 x1 x2 x3 x4 h) :=
  z_met (by decide +kernel) (Nat.le_of_ble_eq_true rfl) (fun X hG hn o hnm => by
    subst hG
    show Sim X (z_Zi X 0 0) 0 0 0 [(0, rf (xG X) x0), (1, .int x1), (2, .int x2), (3, .int x3), (4, .int x4)] [] h _
    exact s_sub [0, 1, 2, 3, 4] rfl (t_X5_trade_0 o f x0 x1 x2 x3 x4 h))
