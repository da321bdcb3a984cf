/-! SixMaps.areTwoBands(II)Z -/
def b_X5_areTwoBands_24 (f : Nat)  (y0 : Int32) (h : Hp) : Option (Int32 × Hp) :=
  q_bo y0 (some (y0, h))
def b_X5_areTwoBands_23 (f : Nat)   (h : Hp) : Option (Int32 × Hp) :=
  b_X5_areTwoBands_24 f (0 : Int32) h
def f_X5_areTwoBands (f : Nat)  (x0 : Int32) (x1 : Int32) (h : Hp) : Option (Int32 × Hp) :=
  bi (f_X5_isBand f x0 h) fun v2_ h1_ =>
  if v2_ = 0 then
  (b_X5_areTwoBands_23 f h1_)
  else
  (bi (f_X5_isBand f x1 h1_) fun v4_ h3_ =>
  if v4_ = 0 then
  (b_X5_areTwoBands_23 f h3_)
  else
  (if x0 = x1 then
  (b_X5_areTwoBands_23 f h3_)
  else
  (b_X5_areTwoBands_24 f (1 : Int32) h3_)))
set_option maxRecDepth 20000 in
theorem t_X5_areTwoBands_24 {X : Cx} (o : Ok X RX5 cX5_areTwoBands 2 1 20 0 0 (some .boolean)) (f : Nat)  (y0 : Int32) (h : Hp) : Sim X (z_Zi X 0 0) 0 0 24 [] [.int y0] h (b_X5_areTwoBands_24 f y0 h) := by
  unfold b_X5_areTwoBands_24
  exact s_zret o dX5_areTwoBands_24
set_option maxRecDepth 20000 in
theorem t_X5_areTwoBands_23 {X : Cx} (o : Ok X RX5 cX5_areTwoBands 2 1 20 0 0 (some .boolean)) (f : Nat)   (h : Hp) : Sim X (z_Zi X 0 0) 0 0 23 [] [] h (b_X5_areTwoBands_23 f h) := by
  unfold b_X5_areTwoBands_23
  refine s_iconst o dX5_areTwoBands_23 (v := (0 : Int32)) (by decide) (q := 24) rfl ?_
  exact s_sub [] rfl (t_X5_areTwoBands_24 o f (0 : Int32) h)
set_option maxRecDepth 20000 in
theorem t_X5_areTwoBands_0 {X : Cx} (o : Ok X RX5 cX5_areTwoBands 2 1 20 0 0 (some .boolean)) (f : Nat)  (x0 : Int32) (x1 : Int32) (h : Hp) : Sim X (z_Zi X 0 0) 0 0 0 [(0, .int x0), (1, .int x1)] [] h (f_X5_areTwoBands f x0 x1 h) := by
  unfold f_X5_areTwoBands
  refine s_iload_n o 0 rfl dX5_areTwoBands_0 (q := 1) rfl ?_
  refine s_bi (fun r0 hr0 => runS o cs_X5_124 (c_X5_isBand (xG X) f x0 h (xl X) r0 hr0) ⟨Nat.le_of_ble_eq_true rfl, Nat.le_of_ble_eq_true rfl⟩ rfl rfl (Nat.le_of_ble_eq_true rfl) dX5_areTwoBands_1 ⟨Nat.le_of_ble_eq_true rfl, Nat.le_of_ble_eq_true rfl⟩) (q := 4) rfl (cs' := 0) rfl (sl' := 0) rfl (fun v2_ h1_ => ?_)
  refine s_if_eq o (tgt := 23) dX5_areTwoBands_4 (by decide) (q := 7) rfl ?_ ?_
  · exact s_sub [] rfl (t_X5_areTwoBands_23 o f h1_)
  · refine s_iload_n o 1 rfl dX5_areTwoBands_7 (q := 8) rfl ?_
    refine s_bi (fun r0 hr0 => runS o cs_X5_124 (c_X5_isBand (xG X) f x1 h1_ (xl X) r0 hr0) ⟨Nat.le_of_ble_eq_true rfl, Nat.le_of_ble_eq_true rfl⟩ rfl rfl (Nat.le_of_ble_eq_true rfl) dX5_areTwoBands_8 ⟨Nat.le_of_ble_eq_true rfl, Nat.le_of_ble_eq_true rfl⟩) (q := 11) rfl (cs' := 0) rfl (sl' := 0) rfl (fun v4_ h3_ => ?_)
    refine s_if_eq o (tgt := 23) dX5_areTwoBands_11 (by decide) (q := 14) rfl ?_ ?_
    · exact s_sub [] rfl (t_X5_areTwoBands_23 o f h3_)
    · refine s_iload_n o 0 rfl dX5_areTwoBands_14 (q := 15) rfl ?_
      refine s_iload_n o 1 rfl dX5_areTwoBands_15 (q := 16) rfl ?_
      refine s_ic_eq o (tgt := 23) dX5_areTwoBands_16 (by decide) (q := 19) rfl ?_ ?_
      · exact s_sub [] rfl (t_X5_areTwoBands_23 o f h3_)
      · refine s_iconst o dX5_areTwoBands_19 (v := (1 : Int32)) (by decide) (q := 20) rfl ?_
        refine s_goto o (tgt := 24) dX5_areTwoBands_20 (by decide) ?_
        exact s_sub [] rfl (t_X5_areTwoBands_24 o f (1 : Int32) h3_)
theorem c_X5_areTwoBands (G : Gx) (f : Nat) (x0 : Int32) (x1 : Int32) (h : Hp) : z_M z_qi G yX5_areTwoBands cX5_areTwoBands 2 (some .boolean) 1 20 0 0 [.int x0, .int x1] h (f_X5_areTwoBands f x0 x1 h) :=
  z_met (by decide +kernel) (Nat.le_of_ble_eq_true rfl) (fun X hG hn o hnm => by
    subst hG
    show Sim X (z_Zi X 0 0) 0 0 0 [(0, .int x0), (1, .int x1)] [] h _
    exact s_sub [0, 1] rfl (t_X5_areTwoBands_0 o f x0 x1 h))
/-! SixMaps.area(III)I -/
def b_X5_area_96 (f : Nat)  (y0 : Int32) (h : Hp) : Option (Int32 × Hp) :=
  some (y0, h)
def b_X5_area_29 (f : Nat)   (h : Hp) : Option (Int32 × Hp) :=
  some ((-1000002 : Int32), h)
def f_X5_area (f : Nat)  (x0 : Nat) (x1 : Int32) (x2 : Int32) (x3 : Int32) (h : Hp) : Option (Int32 × Hp) :=
  bi (f_X5_isBand f x1 h) fun v2_ h1_ =>
  if ¬ v2_ = 0 then
  (if x2 < 0 then
  (b_X5_area_29 f h1_)
  else
  (if (63 : Int32) < x2 then
  (b_X5_area_29 f h1_)
  else
  (if x3 < 0 then
  (b_X5_area_29 f h1_)
  else
  (if x3 < (4 : Int32) then
  ((q_gr h1_ x0 5 3).bind fun a3_ =>
  (q_gi h1_ a3_ 0 4).bind fun v4_ =>
  if ¬ v4_ = 0 then
  ((q_gr h1_ x0 5 10).bind fun a5_ =>
  (q_gr h1_ x0 5 3).bind fun a6_ =>
  (q_gr h1_ x0 5 6).bind fun a7_ =>
  q_on h1_ a5_ 1 (
  (f_X1_weigh f a5_ a6_ a7_ x1 h1_).bind fun h9_ =>
  (q_gr h9_ x0 5 10).bind fun a10_ =>
  q_on h9_ a10_ 1 (
  bi (f_X1_indexOf f a10_ x2 h9_) fun v13_ h12_ =>
  if ¬ v13_ = (-1 : Int32) then
  ((q_gr h12_ x0 5 10).bind fun a14_ =>
  (q_gr h12_ a14_ 1 8).bind fun a15_ =>
  (q_ai h12_ a15_ 9 ((v13_ * (4 : Int32)) + x3)).bind fun v16_ =>
  b_X5_area_96 f v16_ h12_)
  else
  (b_X5_area_96 f (-1000003 : Int32) h12_))))
  else
  (some ((-1000003 : Int32), h1_)))
  else
  (b_X5_area_29 f h1_)))))
  else
  (some ((-1000001 : Int32), h1_))
set_option maxRecDepth 20000 in
theorem t_X5_area_96 {X : Cx} (o : Ok X RX5 cX5_area 5 6 133 0 0 (some .int)) (f : Nat)  (y0 : Int32) (h : Hp) : Sim X (z_Zi X 0 0) 0 0 96 [] [.int y0] h (b_X5_area_96 f y0 h) := by
  unfold b_X5_area_96
  exact s_iret o dX5_area_96
set_option maxRecDepth 20000 in
theorem t_X5_area_29 {X : Cx} (o : Ok X RX5 cX5_area 5 6 133 0 0 (some .int)) (f : Nat)   (h : Hp) : Sim X (z_Zi X 0 0) 0 0 29 [] [] h (b_X5_area_29 f h) := by
  unfold b_X5_area_29
  refine s_ldc o kc_X5_66 dX5_area_29 (q := 31) rfl ?_
  exact s_iret o dX5_area_31
set_option maxRecDepth 20000 in
theorem t_X5_area_0 {X : Cx} (o : Ok X RX5 cX5_area 5 6 133 0 0 (some .int)) (f : Nat)  (x0 : Nat) (x1 : Int32) (x2 : Int32) (x3 : Int32) (h : Hp) : Sim X (z_Zi X 0 0) 0 0 0 [(0, rf (xG X) x0), (1, .int x1), (2, .int x2), (3, .int x3)] [] h (f_X5_area f x0 x1 x2 x3 h) := by
  unfold f_X5_area
  refine s_iload_n o 1 rfl dX5_area_0 (q := 1) rfl ?_
  refine s_bi (fun r0 hr0 => runS o cs_X5_124 (c_X5_isBand (xG X) f x1 h (xl X) r0 hr0) ⟨Nat.le_of_ble_eq_true rfl, Nat.le_of_ble_eq_true rfl⟩ rfl rfl (Nat.le_of_ble_eq_true rfl) dX5_area_1 ⟨Nat.le_of_ble_eq_true rfl, Nat.le_of_ble_eq_true rfl⟩) (q := 4) rfl (cs' := 0) rfl (sl' := 0) rfl (fun v2_ h1_ => ?_)
  refine s_if_ne o (tgt := 10) dX5_area_4 (by decide) (q := 7) rfl ?_ ?_
  · refine s_iload_n o 2 rfl dX5_area_10 (q := 11) rfl ?_
    refine s_if_lt o (tgt := 29) dX5_area_11 (by decide) (q := 14) rfl ?_ ?_
    · exact s_sub [] rfl (t_X5_area_29 o f h1_)
    · refine s_iload_n o 2 rfl dX5_area_14 (q := 15) rfl ?_
      refine s_bipush o dX5_area_15 (v := (63 : Int32)) (by decide) (q := 17) rfl ?_
      refine s_ic_gt o (tgt := 29) dX5_area_17 (by decide) (q := 20) rfl ?_ ?_
      · exact s_sub [] rfl (t_X5_area_29 o f h1_)
      · refine s_iload_n o 3 rfl dX5_area_20 (q := 21) rfl ?_
        refine s_if_lt o (tgt := 29) dX5_area_21 (by decide) (q := 24) rfl ?_ ?_
        · exact s_sub [] rfl (t_X5_area_29 o f h1_)
        · refine s_iload_n o 3 rfl dX5_area_24 (q := 25) rfl ?_
          refine s_iconst o dX5_area_25 (v := (4 : Int32)) (by decide) (q := 26) rfl ?_
          refine s_ic_lt o (tgt := 32) dX5_area_26 (by decide) (q := 29) rfl ?_ ?_
          · refine s_aload_n o 0 rfl dX5_area_32 (q := 33) rfl ?_
            refine s_gr o kf_X5_23 dX5_area_33 (q := 36) rfl (fun a3_ => ?_)
            refine s_gi o kf_X5_75 dX5_area_36 (q := 39) rfl (fun v4_ => ?_)
            refine s_if_ne o (tgt := 45) dX5_area_39 (by decide) (q := 42) rfl ?_ ?_
            · refine s_aload_n o 0 rfl dX5_area_45 (q := 46) rfl ?_
              refine s_gr o kf_X5_62 dX5_area_46 (q := 49) rfl (fun a5_ => ?_)
              refine s_aload_n o 0 rfl dX5_area_49 (q := 50) rfl ?_
              refine s_gr o kf_X5_23 dX5_area_50 (q := 53) rfl (fun a6_ => ?_)
              refine s_aload_n o 0 rfl dX5_area_53 (q := 54) rfl ?_
              refine s_gr o kf_X5_40 dX5_area_54 (q := 57) rfl (fun a7_ => ?_)
              refine s_iload_n o 1 rfl dX5_area_57 (q := 58) rfl ?_
              refine s_on (fun hk8_ => ?_)
              refine s_callv (fun r0 hr0 => runV o hk8_ cv_X5_161 (c_X1_weigh (xG X) f a5_ a6_ a7_ x1 h1_ (xl X) r0 hr0) ⟨Nat.le_of_ble_eq_true rfl, Nat.le_of_ble_eq_true rfl⟩ rfl rfl (Nat.le_of_ble_eq_true rfl) dX5_area_58 ⟨Nat.le_of_ble_eq_true rfl, Nat.le_of_ble_eq_true rfl⟩) (q := 61) rfl (cs' := 0) rfl (sl' := 0) rfl (fun h9_ => ?_)
              refine s_aload_n o 0 rfl dX5_area_61 (q := 62) rfl ?_
              refine s_gr o kf_X5_62 dX5_area_62 (q := 65) rfl (fun a10_ => ?_)
              refine s_iload_n o 2 rfl dX5_area_65 (q := 66) rfl ?_
              refine s_on (fun hk11_ => ?_)
              refine s_bi (fun r0 hr0 => runV o hk11_ cv_X5_176 (c_X1_indexOf (xG X) f a10_ x2 h9_ (xl X) r0 hr0) ⟨Nat.le_of_ble_eq_true rfl, Nat.le_of_ble_eq_true rfl⟩ rfl rfl (Nat.le_of_ble_eq_true rfl) dX5_area_66 ⟨Nat.le_of_ble_eq_true rfl, Nat.le_of_ble_eq_true rfl⟩) (q := 69) rfl (cs' := 0) rfl (sl' := 0) rfl (fun v13_ h12_ => ?_)
              refine s_istore o [1, 2, 3, 4, 0] (lv' := [(0, rf (xG X) x0), (1, .int x1), (2, .int x2), (3, .int x3), (4, .int v13_)]) rfl dX5_area_69 (by decide) (q := 71) rfl ?_
              refine s_iload o 4 rfl dX5_area_71 (q := 73) rfl ?_
              refine s_iconst o dX5_area_73 (v := (-1 : Int32)) (by decide) (q := 74) rfl ?_
              refine s_ic_ne o (tgt := 82) dX5_area_74 (by decide) (q := 77) rfl ?_ ?_
              · refine s_aload_n o 0 rfl dX5_area_82 (q := 83) rfl ?_
                refine s_gr o kf_X5_62 dX5_area_83 (q := 86) rfl (fun a14_ => ?_)
                refine s_gr o kf_X5_179 dX5_area_86 (q := 89) rfl (fun a15_ => ?_)
                refine s_iload o 4 rfl dX5_area_89 (q := 91) rfl ?_
                refine s_iconst o dX5_area_91 (v := (4 : Int32)) (by decide) (q := 92) rfl ?_
                refine s_imul o dX5_area_92 (q := 93) rfl ?_
                refine s_iload_n o 3 rfl dX5_area_93 (q := 94) rfl ?_
                refine s_iadd o dX5_area_94 (q := 95) rfl ?_
                refine s_iald o dX5_area_95 (q := 96) rfl (fun v16_ => ?_)
                exact s_sub [] rfl (t_X5_area_96 o f v16_ h12_)
              · refine s_ldc o kc_X5_133 dX5_area_77 (q := 79) rfl ?_
                refine s_goto o (tgt := 96) dX5_area_79 (by decide) ?_
                exact s_sub [] rfl (t_X5_area_96 o f (-1000003 : Int32) h12_)
            · refine s_ldc o kc_X5_133 dX5_area_42 (q := 44) rfl ?_
              exact s_iret o dX5_area_44
          · exact s_sub [] rfl (t_X5_area_29 o f h1_)
  · refine s_ldc o kc_X5_116 dX5_area_7 (q := 9) rfl ?_
    exact s_iret o dX5_area_9
theorem c_X5_area (G : Gx) (f : Nat) (x0 : Nat) (x1 : Int32) (x2 : Int32) (x3 : Int32) (h : Hp) : z_M z_qi G yX5_area cX5_area 5 (some .int) 6 133 0 0 [rf G x0, .int x1, .int x2, .int x3] h (f_X5_area f x0 x1 x2 x3 h) :=
  z_met (by decide +kernel) (Nat.le_of_ble_eq_true rfl) (fun X hG hn o hnm => by
    subst hG
    show Sim X (z_Zi X 0 0) 0 0 0 [(0, rf (xG X) x0), (1, .int x1), (2, .int x2), (3, .int x3)] [] h _
    exact s_sub [0, 1, 2, 3] rfl (t_X5_area_0 o f x0 x1 x2 x3 h))
/-! SixMaps.best(II)I -/
def b_X5_best_19 (f : Nat)   (h : Hp) : Option (Int32 × Hp) :=
  some ((-1000002 : Int32), h)
def f_X5_best (f : Nat)  (x0 : Nat) (x1 : Int32) (x2 : Int32) (h : Hp) : Option (Int32 × Hp) :=
  bi (f_X5_isBand f x1 h) fun v2_ h1_ =>
  if ¬ v2_ = 0 then
  (if x2 < 0 then
  (b_X5_best_19 f h1_)
  else
  (if x2 ≤ (3 : Int32) then
  ((q_gr h1_ x0 5 10).bind fun a3_ =>
  (q_gr h1_ x0 5 3).bind fun a4_ =>
  (q_gr h1_ x0 5 6).bind fun a5_ =>
  q_on h1_ a3_ 1 (
  (f_X1_weigh f a3_ a4_ a5_ x1 h1_).bind fun h7_ =>
  (q_gr h7_ x0 5 10).bind fun a8_ =>
  q_on h7_ a8_ 1 (
  (f_X1_choosePlace f a8_ h7_).bind fun h10_ =>
  (q_gr h10_ x0 5 10).bind fun a11_ =>
  (q_gi h10_ a11_ 1 14).bind fun v12_ =>
  if ¬ v12_ = (-1 : Int32) then
  (sw x2 0 [
  ((q_gr h10_ x0 5 10).bind fun a13_ =>
  (q_gr h10_ x0 5 10).bind fun a14_ =>
  (q_gi h10_ a14_ 1 14).bind fun v15_ =>
  q_on h10_ a13_ 1 (
  bi (f_X1_placeX f a13_ v15_ h10_) fun v18_ h17_ =>
  some (v18_, h17_))), 
  ((q_gr h10_ x0 5 10).bind fun a19_ =>
  (q_gr h10_ x0 5 10).bind fun a20_ =>
  (q_gi h10_ a20_ 1 14).bind fun v21_ =>
  q_on h10_ a19_ 1 (
  bi (f_X1_placeY f a19_ v21_ h10_) fun v24_ h23_ =>
  some (v24_, h23_))), 
  ((q_gr h10_ x0 5 10).bind fun a25_ =>
  (q_gi h10_ a25_ 1 15).bind fun v26_ =>
  some (v26_, h10_))] ((q_gr h10_ x0 5 10).bind fun a27_ =>
  q_on h10_ a27_ 1 (
  bi (f_X1_worth f a27_ h10_) fun v30_ h29_ =>
  some (v30_, h29_))))
  else
  (some ((-1 : Int32), h10_)))))
  else
  (b_X5_best_19 f h1_)))
  else
  (some ((-1000001 : Int32), h1_))
set_option maxRecDepth 20000 in
theorem t_X5_best_19 {X : Cx} (o : Ok X RX5 cX5_best 3 6 133 0 0 (some .int)) (f : Nat)   (h : Hp) : Sim X (z_Zi X 0 0) 0 0 19 [] [] h (b_X5_best_19 f h) := by
  unfold b_X5_best_19
  refine s_ldc o kc_X5_66 dX5_best_19 (q := 21) rfl ?_
  exact s_iret o dX5_best_21
set_option maxRecDepth 20000 in
theorem t_X5_best_0 {X : Cx} (o : Ok X RX5 cX5_best 3 6 133 0 0 (some .int)) (f : Nat)  (x0 : Nat) (x1 : Int32) (x2 : Int32) (h : Hp) : Sim X (z_Zi X 0 0) 0 0 0 [(0, rf (xG X) x0), (1, .int x1), (2, .int x2)] [] h (f_X5_best f x0 x1 x2 h) := by
  unfold f_X5_best
  refine s_iload_n o 1 rfl dX5_best_0 (q := 1) rfl ?_
  refine s_bi (fun r0 hr0 => runS o cs_X5_124 (c_X5_isBand (xG X) f x1 h (xl X) r0 hr0) ⟨Nat.le_of_ble_eq_true rfl, Nat.le_of_ble_eq_true rfl⟩ rfl rfl (Nat.le_of_ble_eq_true rfl) dX5_best_1 ⟨Nat.le_of_ble_eq_true rfl, Nat.le_of_ble_eq_true rfl⟩) (q := 4) rfl (cs' := 0) rfl (sl' := 0) rfl (fun v2_ h1_ => ?_)
  refine s_if_ne o (tgt := 10) dX5_best_4 (by decide) (q := 7) rfl ?_ ?_
  · refine s_iload_n o 2 rfl dX5_best_10 (q := 11) rfl ?_
    refine s_if_lt o (tgt := 19) dX5_best_11 (by decide) (q := 14) rfl ?_ ?_
    · exact s_sub [] rfl (t_X5_best_19 o f h1_)
    · refine s_iload_n o 2 rfl dX5_best_14 (q := 15) rfl ?_
      refine s_iconst o dX5_best_15 (v := (3 : Int32)) (by decide) (q := 16) rfl ?_
      refine s_ic_le o (tgt := 22) dX5_best_16 (by decide) (q := 19) rfl ?_ ?_
      · refine s_aload_n o 0 rfl dX5_best_22 (q := 23) rfl ?_
        refine s_gr o kf_X5_62 dX5_best_23 (q := 26) rfl (fun a3_ => ?_)
        refine s_aload_n o 0 rfl dX5_best_26 (q := 27) rfl ?_
        refine s_gr o kf_X5_23 dX5_best_27 (q := 30) rfl (fun a4_ => ?_)
        refine s_aload_n o 0 rfl dX5_best_30 (q := 31) rfl ?_
        refine s_gr o kf_X5_40 dX5_best_31 (q := 34) rfl (fun a5_ => ?_)
        refine s_iload_n o 1 rfl dX5_best_34 (q := 35) rfl ?_
        refine s_on (fun hk6_ => ?_)
        refine s_callv (fun r0 hr0 => runV o hk6_ cv_X5_161 (c_X1_weigh (xG X) f a3_ a4_ a5_ x1 h1_ (xl X) r0 hr0) ⟨Nat.le_of_ble_eq_true rfl, Nat.le_of_ble_eq_true rfl⟩ rfl rfl (Nat.le_of_ble_eq_true rfl) dX5_best_35 ⟨Nat.le_of_ble_eq_true rfl, Nat.le_of_ble_eq_true rfl⟩) (q := 38) rfl (cs' := 0) rfl (sl' := 0) rfl (fun h7_ => ?_)
        refine s_aload_n o 0 rfl dX5_best_38 (q := 39) rfl ?_
        refine s_gr o kf_X5_62 dX5_best_39 (q := 42) rfl (fun a8_ => ?_)
        refine s_on (fun hk9_ => ?_)
        refine s_callv (fun r0 hr0 => runV o hk9_ cv_X5_182 (c_X1_choosePlace (xG X) f a8_ h7_ (xl X) r0 hr0) ⟨Nat.le_of_ble_eq_true rfl, Nat.le_of_ble_eq_true rfl⟩ rfl rfl (Nat.le_of_ble_eq_true rfl) dX5_best_42 ⟨Nat.le_of_ble_eq_true rfl, Nat.le_of_ble_eq_true rfl⟩) (q := 45) rfl (cs' := 0) rfl (sl' := 0) rfl (fun h10_ => ?_)
        refine s_aload_n o 0 rfl dX5_best_45 (q := 46) rfl ?_
        refine s_gr o kf_X5_62 dX5_best_46 (q := 49) rfl (fun a11_ => ?_)
        refine s_gi o kf_X5_185 dX5_best_49 (q := 52) rfl (fun v12_ => ?_)
        refine s_iconst o dX5_best_52 (v := (-1 : Int32)) (by decide) (q := 53) rfl ?_
        refine s_ic_ne o (tgt := 58) dX5_best_53 (by decide) (q := 56) rfl ?_ ?_
        · refine s_iload_n o 2 rfl dX5_best_58 (q := 59) rfl ?_
          refine s_sw o dX5_best_59 rfl (tgD := 122) (by decide) ?_ (⟨⟨84, by decide, ?_⟩, ⟨99, by decide, ?_⟩, ⟨114, by decide, ?_⟩, trivial⟩)
          · refine s_aload_n o 0 rfl dX5_best_122 (q := 123) rfl ?_
            refine s_gr o kf_X5_62 dX5_best_123 (q := 126) rfl (fun a27_ => ?_)
            refine s_on (fun hk28_ => ?_)
            refine s_bi (fun r0 hr0 => runV o hk28_ cv_X5_197 (c_X1_worth (xG X) f a27_ h10_ (xl X) r0 hr0) ⟨Nat.le_of_ble_eq_true rfl, Nat.le_of_ble_eq_true rfl⟩ rfl rfl (Nat.le_of_ble_eq_true rfl) dX5_best_126 ⟨Nat.le_of_ble_eq_true rfl, Nat.le_of_ble_eq_true rfl⟩) (q := 129) rfl (cs' := 0) rfl (sl' := 0) rfl (fun v30_ h29_ => ?_)
            exact s_iret o dX5_best_129
          · refine s_aload_n o 0 rfl dX5_best_84 (q := 85) rfl ?_
            refine s_gr o kf_X5_62 dX5_best_85 (q := 88) rfl (fun a13_ => ?_)
            refine s_aload_n o 0 rfl dX5_best_88 (q := 89) rfl ?_
            refine s_gr o kf_X5_62 dX5_best_89 (q := 92) rfl (fun a14_ => ?_)
            refine s_gi o kf_X5_185 dX5_best_92 (q := 95) rfl (fun v15_ => ?_)
            refine s_on (fun hk16_ => ?_)
            refine s_bi (fun r0 hr0 => runV o hk16_ cv_X5_188 (c_X1_placeX (xG X) f a13_ v15_ h10_ (xl X) r0 hr0) ⟨Nat.le_of_ble_eq_true rfl, Nat.le_of_ble_eq_true rfl⟩ rfl rfl (Nat.le_of_ble_eq_true rfl) dX5_best_95 ⟨Nat.le_of_ble_eq_true rfl, Nat.le_of_ble_eq_true rfl⟩) (q := 98) rfl (cs' := 0) rfl (sl' := 0) rfl (fun v18_ h17_ => ?_)
            exact s_iret o dX5_best_98
          · refine s_aload_n o 0 rfl dX5_best_99 (q := 100) rfl ?_
            refine s_gr o kf_X5_62 dX5_best_100 (q := 103) rfl (fun a19_ => ?_)
            refine s_aload_n o 0 rfl dX5_best_103 (q := 104) rfl ?_
            refine s_gr o kf_X5_62 dX5_best_104 (q := 107) rfl (fun a20_ => ?_)
            refine s_gi o kf_X5_185 dX5_best_107 (q := 110) rfl (fun v21_ => ?_)
            refine s_on (fun hk22_ => ?_)
            refine s_bi (fun r0 hr0 => runV o hk22_ cv_X5_191 (c_X1_placeY (xG X) f a19_ v21_ h10_ (xl X) r0 hr0) ⟨Nat.le_of_ble_eq_true rfl, Nat.le_of_ble_eq_true rfl⟩ rfl rfl (Nat.le_of_ble_eq_true rfl) dX5_best_110 ⟨Nat.le_of_ble_eq_true rfl, Nat.le_of_ble_eq_true rfl⟩) (q := 113) rfl (cs' := 0) rfl (sl' := 0) rfl (fun v24_ h23_ => ?_)
            exact s_iret o dX5_best_113
          · refine s_aload_n o 0 rfl dX5_best_114 (q := 115) rfl ?_
            refine s_gr o kf_X5_62 dX5_best_115 (q := 118) rfl (fun a25_ => ?_)
            refine s_gi o kf_X5_194 dX5_best_118 (q := 121) rfl (fun v26_ => ?_)
            exact s_iret o dX5_best_121
        · refine s_iconst o dX5_best_56 (v := (-1 : Int32)) (by decide) (q := 57) rfl ?_
          exact s_iret o dX5_best_57
      · exact s_sub [] rfl (t_X5_best_19 o f h1_)
  · refine s_ldc o kc_X5_116 dX5_best_7 (q := 9) rfl ?_
    exact s_iret o dX5_best_9
theorem c_X5_best (G : Gx) (f : Nat) (x0 : Nat) (x1 : Int32) (x2 : Int32) (h : Hp) : z_M z_qi G yX5_best cX5_best 3 (some .int) 6 133 0 0 [rf G x0, .int x1, .int x2] h (f_X5_best f x0 x1 x2 h) :=
  z_met (by decide +kernel) (Nat.le_of_ble_eq_true rfl) (fun X hG hn o hnm => by
    subst hG
    show Sim X (z_Zi X 0 0) 0 0 0 [(0, rf (xG X) x0), (1, .int x1), (2, .int x2)] [] h _
    exact s_sub [0, 1, 2] rfl (t_X5_best_0 o f x0 x1 x2 h))
/-! SixMaps.bestCorner(II)I -/
def b_X5_bestCorner_170 (f : Nat)  (y0 : Int32) (h : Hp) : Option (Int32 × Hp) :=
  some (y0, h)
def b_X5_bestCorner_138 (f : Nat) (k61 : Nat → Int32 → Int32 → Int32 → Int32 → Int32 → Int32 → Hp → Option (Int32 × Hp)) (k71 : Nat → Int32 → Int32 → Int32 → Int32 → Int32 → Int32 → Int32 → Hp → Option (Int32 × Hp)) (x0 : Nat) (x1 : Int32) (x2 : Int32) (x3 : Int32) (x4 : Int32) (x5 : Int32) (x6 : Int32) (x7 : Int32) (h : Hp) : Option (Int32 × Hp) :=
  lt (x7 + (1 : Int32)) fun v1_ =>
  k71 x0 x1 x2 x3 x4 x5 x6 v1_ h
def b_X5_bestCorner_127 (f : Nat) (k61 : Nat → Int32 → Int32 → Int32 → Int32 → Int32 → Int32 → Hp → Option (Int32 × Hp)) (k71 : Nat → Int32 → Int32 → Int32 → Int32 → Int32 → Int32 → Int32 → Hp → Option (Int32 × Hp)) (x0 : Nat) (x1 : Int32) (x2 : Int32) (x6 : Int32) (x7 : Int32) (x8 : Int32) (h : Hp) : Option (Int32 × Hp) :=
  b_X5_bestCorner_138 f k61 k71 x0 x1 x2 x6 x7 x8 x6 x7 h
def b_X5_bestCorner_71 (f : Nat) (k61 : Nat → Int32 → Int32 → Int32 → Int32 → Int32 → Int32 → Hp → Option (Int32 × Hp)) (k71 : Nat → Int32 → Int32 → Int32 → Int32 → Int32 → Int32 → Int32 → Hp → Option (Int32 × Hp)) (x0 : Nat) (x1 : Int32) (x2 : Int32) (x3 : Int32) (x4 : Int32) (x5 : Int32) (x6 : Int32) (x7 : Int32) (h : Hp) : Option (Int32 × Hp) :=
  (q_gr h x0 5 3).bind fun a1_ =>
  (q_gi h a1_ 0 4).bind fun v2_ =>
  if v2_ ≤ x7 then
  (lt (x6 + (1 : Int32)) fun v3_ =>
  k61 x0 x1 x2 x3 x4 x5 v3_ h)
  else
  ((q_gr h x0 5 6).bind fun a4_ =>
  q_on h a4_ 4 (
  bi (f_X4_has f a4_ x1 x6 x7 h) fun v7_ h6_ =>
  if v7_ = 0 then
  ((q_gr h6_ x0 5 10).bind fun a8_ =>
  q_on h6_ a8_ 1 (
  bi (f_X1_leftAtWorst f a8_ x6 x7 h6_) fun v11_ h10_ =>
  if x5 = (-1 : Int32) then
  (b_X5_bestCorner_127 f k61 k71 x0 x1 x2 x6 x7 v11_ h10_)
  else
  (if x5 ≤ v11_ then
  (b_X5_bestCorner_138 f k61 k71 x0 x1 x2 x3 x4 x5 x6 x7 h10_)
  else
  (b_X5_bestCorner_127 f k61 k71 x0 x1 x2 x6 x7 v11_ h10_))))
  else
  (b_X5_bestCorner_138 f k61 k71 x0 x1 x2 x3 x4 x5 x6 x7 h6_)))
def l_X5_bestCorner_71 (f : Nat) (k61 : Nat → Int32 → Int32 → Int32 → Int32 → Int32 → Int32 → Hp → Option (Int32 × Hp)) : Nat → Nat → Int32 → Int32 → Int32 → Int32 → Int32 → Int32 → Int32 → Hp → Option (Int32 × Hp)
  | 0, _, _, _, _, _, _, _, _, _ => none
  | n + 1, x0, x1, x2, x3, x4, x5, x6, x7, h => b_X5_bestCorner_71 f k61 (l_X5_bestCorner_71 f k61 n) x0 x1 x2 x3 x4 x5 x6 x7 h
def b_X5_bestCorner_61 (f : Nat) (k61 : Nat → Int32 → Int32 → Int32 → Int32 → Int32 → Int32 → Hp → Option (Int32 × Hp)) (x0 : Nat) (x1 : Int32) (x2 : Int32) (x3 : Int32) (x4 : Int32) (x5 : Int32) (x6 : Int32) (h : Hp) : Option (Int32 × Hp) :=
  if (6 : Int32) ≤ x6 then
  (if ¬ x2 = 0 then
  (if ¬ x2 = (1 : Int32) then
  (b_X5_bestCorner_170 f x5 h)
  else
  (b_X5_bestCorner_170 f x4 h))
  else
  (b_X5_bestCorner_170 f x3 h))
  else
  (l_X5_bestCorner_71 f k61 f x0 x1 x2 x3 x4 x5 x6 (0 : Int32) h)
def l_X5_bestCorner_61 (f : Nat)  : Nat → Nat → Int32 → Int32 → Int32 → Int32 → Int32 → Int32 → Hp → Option (Int32 × Hp)
  | 0, _, _, _, _, _, _, _, _ => none
  | n + 1, x0, x1, x2, x3, x4, x5, x6, h => b_X5_bestCorner_61 f  (l_X5_bestCorner_61 f  n) x0 x1 x2 x3 x4 x5 x6 h
def b_X5_bestCorner_19 (f : Nat)   (h : Hp) : Option (Int32 × Hp) :=
  some ((-1000002 : Int32), h)
def f_X5_bestCorner (f : Nat)  (x0 : Nat) (x1 : Int32) (x2 : Int32) (h : Hp) : Option (Int32 × Hp) :=
  bi (f_X5_isBand f x1 h) fun v2_ h1_ =>
  if ¬ v2_ = 0 then
  (if x2 < 0 then
  (b_X5_bestCorner_19 f h1_)
  else
  (if x2 ≤ (2 : Int32) then
  ((q_gr h1_ x0 5 10).bind fun a3_ =>
  (q_gr h1_ x0 5 3).bind fun a4_ =>
  (q_gr h1_ x0 5 6).bind fun a5_ =>
  q_on h1_ a3_ 1 (
  (f_X1_weigh f a3_ a4_ a5_ x1 h1_).bind fun h7_ =>
  (q_gr h7_ x0 5 10).bind fun a8_ =>
  (q_gi h7_ a8_ 1 12).bind fun v9_ =>
  if ¬ v9_ = 0 then
  (l_X5_bestCorner_61 f f x0 x1 x2 (-1 : Int32) (-1 : Int32) (-1 : Int32) (0 : Int32) h7_)
  else
  (some ((-1 : Int32), h7_))))
  else
  (b_X5_bestCorner_19 f h1_)))
  else
  (some ((-1000001 : Int32), h1_))
set_option maxRecDepth 20000 in
theorem t_X5_bestCorner_170 {X : Cx} (o : Ok X RX5 cX5_bestCorner 9 7 160 0 0 (some .int)) (f : Nat)  (y0 : Int32) (h : Hp) : Sim X (z_Zi X 0 0) 0 0 170 [] [.int y0] h (b_X5_bestCorner_170 f y0 h) := by
  unfold b_X5_bestCorner_170
  exact s_iret o dX5_bestCorner_170
set_option maxRecDepth 20000 in
theorem t_X5_bestCorner_138 {X : Cx} (o : Ok X RX5 cX5_bestCorner 9 7 160 0 0 (some .int)) (f : Nat) {k61 : Nat → Int32 → Int32 → Int32 → Int32 → Int32 → Int32 → Hp → Option (Int32 × Hp)} (hk61 : ∀ (x0 : Nat) (x1 : Int32) (x2 : Int32) (x3 : Int32) (x4 : Int32) (x5 : Int32) (x6 : Int32) (h : Hp), Sim X (z_Zi X 0 0) 0 0 61 [(0, rf (xG X) x0), (1, .int x1), (2, .int x2), (3, .int x3), (4, .int x4), (5, .int x5), (6, .int x6)] [] h (k61 x0 x1 x2 x3 x4 x5 x6 h)) {k71 : Nat → Int32 → Int32 → Int32 → Int32 → Int32 → Int32 → Int32 → Hp → Option (Int32 × Hp)} (hk71 : ∀ (x0 : Nat) (x1 : Int32) (x2 : Int32) (x3 : Int32) (x4 : Int32) (x5 : Int32) (x6 : Int32) (x7 : Int32) (h : Hp), Sim X (z_Zi X 0 0) 0 0 71 [(0, rf (xG X) x0), (1, .int x1), (2, .int x2), (3, .int x3), (4, .int x4), (5, .int x5), (6, .int x6), (7, .int x7)] [] h (k71 x0 x1 x2 x3 x4 x5 x6 x7 h)) (x0 : Nat) (x1 : Int32) (x2 : Int32) (x3 : Int32) (x4 : Int32) (x5 : Int32) (x6 : Int32) (x7 : Int32) (h : Hp) : Sim X (z_Zi X 0 0) 0 0 138 [(0, rf (xG X) x0), (1, .int x1), (2, .int x2), (3, .int x3), (4, .int x4), (5, .int x5), (6, .int x6), (7, .int x7)] [] h (b_X5_bestCorner_138 f k61 k71 x0 x1 x2 x3 x4 x5 x6 x7 h) := by
  unfold b_X5_bestCorner_138
  refine s_iinc o 7 rfl (v := (1 : Int32)) (by decide) [1, 2, 3, 4, 5, 6, 7, 0] (lv' := fun v1_ => [(0, rf (xG X) x0), (1, .int x1), (2, .int x2), (3, .int x3), (4, .int x4), (5, .int x5), (6, .int x6), (7, .int v1_)]) (fun _ => rfl) dX5_bestCorner_138 (by decide) (q := 141) rfl (fun v1_ => ?_)
  refine s_goto o (tgt := 71) dX5_bestCorner_141 (by decide) ?_
  exact s_sub [0, 1, 2, 3, 4, 5, 6, 7] rfl (hk71 x0 x1 x2 x3 x4 x5 x6 v1_ h)
set_option maxRecDepth 20000 in
theorem t_X5_bestCorner_127 {X : Cx} (o : Ok X RX5 cX5_bestCorner 9 7 160 0 0 (some .int)) (f : Nat) {k61 : Nat → Int32 → Int32 → Int32 → Int32 → Int32 → Int32 → Hp → Option (Int32 × Hp)} (hk61 : ∀ (x0 : Nat) (x1 : Int32) (x2 : Int32) (x3 : Int32) (x4 : Int32) (x5 : Int32) (x6 : Int32) (h : Hp), Sim X (z_Zi X 0 0) 0 0 61 [(0, rf (xG X) x0), (1, .int x1), (2, .int x2), (3, .int x3), (4, .int x4), (5, .int x5), (6, .int x6)] [] h (k61 x0 x1 x2 x3 x4 x5 x6 h)) {k71 : Nat → Int32 → Int32 → Int32 → Int32 → Int32 → Int32 → Int32 → Hp → Option (Int32 × Hp)} (hk71 : ∀ (x0 : Nat) (x1 : Int32) (x2 : Int32) (x3 : Int32) (x4 : Int32) (x5 : Int32) (x6 : Int32) (x7 : Int32) (h : Hp), Sim X (z_Zi X 0 0) 0 0 71 [(0, rf (xG X) x0), (1, .int x1), (2, .int x2), (3, .int x3), (4, .int x4), (5, .int x5), (6, .int x6), (7, .int x7)] [] h (k71 x0 x1 x2 x3 x4 x5 x6 x7 h)) (x0 : Nat) (x1 : Int32) (x2 : Int32) (x6 : Int32) (x7 : Int32) (x8 : Int32) (h : Hp) : Sim X (z_Zi X 0 0) 0 0 127 [(0, rf (xG X) x0), (1, .int x1), (2, .int x2), (6, .int x6), (7, .int x7), (8, .int x8)] [] h (b_X5_bestCorner_127 f k61 k71 x0 x1 x2 x6 x7 x8 h) := by
  unfold b_X5_bestCorner_127
  refine s_iload o 5 rfl dX5_bestCorner_127 (q := 129) rfl ?_
  refine s_istore o [1, 2, 3, 0, 4, 5, 6] (lv' := [(0, rf (xG X) x0), (1, .int x1), (2, .int x2), (5, .int x8), (6, .int x6), (7, .int x7), (8, .int x8)]) rfl dX5_bestCorner_129 (by decide) (q := 131) rfl ?_
  refine s_iload o 4 rfl dX5_bestCorner_131 (q := 133) rfl ?_
  refine s_istore_n o [1, 2, 3, 0, 4, 5, 6, 7] (lv' := [(0, rf (xG X) x0), (1, .int x1), (2, .int x2), (3, .int x6), (5, .int x8), (6, .int x6), (7, .int x7), (8, .int x8)]) rfl dX5_bestCorner_133 (by decide) (q := 134) rfl ?_
  refine s_iload o 6 rfl dX5_bestCorner_134 (q := 136) rfl ?_
  refine s_istore o [1, 2, 3, 4, 0, 5, 6, 7, 8] (lv' := [(0, rf (xG X) x0), (1, .int x1), (2, .int x2), (3, .int x6), (4, .int x7), (5, .int x8), (6, .int x6), (7, .int x7), (8, .int x8)]) rfl dX5_bestCorner_136 (by decide) (q := 138) rfl ?_
  exact s_sub [0, 1, 2, 3, 4, 5, 6, 7] rfl (t_X5_bestCorner_138 o f hk61 hk71 x0 x1 x2 x6 x7 x8 x6 x7 h)
set_option maxRecDepth 20000 in
theorem t_X5_bestCorner_71 {X : Cx} (o : Ok X RX5 cX5_bestCorner 9 7 160 0 0 (some .int)) (f : Nat) {k61 : Nat → Int32 → Int32 → Int32 → Int32 → Int32 → Int32 → Hp → Option (Int32 × Hp)} (hk61 : ∀ (x0 : Nat) (x1 : Int32) (x2 : Int32) (x3 : Int32) (x4 : Int32) (x5 : Int32) (x6 : Int32) (h : Hp), Sim X (z_Zi X 0 0) 0 0 61 [(0, rf (xG X) x0), (1, .int x1), (2, .int x2), (3, .int x3), (4, .int x4), (5, .int x5), (6, .int x6)] [] h (k61 x0 x1 x2 x3 x4 x5 x6 h)) {k71 : Nat → Int32 → Int32 → Int32 → Int32 → Int32 → Int32 → Int32 → Hp → Option (Int32 × Hp)} (hk71 : ∀ (x0 : Nat) (x1 : Int32) (x2 : Int32) (x3 : Int32) (x4 : Int32) (x5 : Int32) (x6 : Int32) (x7 : Int32) (h : Hp), Sim X (z_Zi X 0 0) 0 0 71 [(0, rf (xG X) x0), (1, .int x1), (2, .int x2), (3, .int x3), (4, .int x4), (5, .int x5), (6, .int x6), (7, .int x7)] [] h (k71 x0 x1 x2 x3 x4 x5 x6 x7 h)) (x0 : Nat) (x1 : Int32) (x2 : Int32) (x3 : Int32) (x4 : Int32) (x5 : Int32) (x6 : Int32) (x7 : Int32) (h : Hp) : Sim X (z_Zi X 0 0) 0 0 71 [(0, rf (xG X) x0), (1, .int x1), (2, .int x2), (3, .int x3), (4, .int x4), (5, .int x5), (6, .int x6), (7, .int x7)] [] h (b_X5_bestCorner_71 f k61 k71 x0 x1 x2 x3 x4 x5 x6 x7 h) := by
  unfold b_X5_bestCorner_71
  refine s_iload o 7 rfl dX5_bestCorner_71 (q := 73) rfl ?_
  refine s_aload_n o 0 rfl dX5_bestCorner_73 (q := 74) rfl ?_
  refine s_gr o kf_X5_23 dX5_bestCorner_74 (q := 77) rfl (fun a1_ => ?_)
  refine s_gi o kf_X5_75 dX5_bestCorner_77 (q := 80) rfl (fun v2_ => ?_)
  refine s_ic_ge o (tgt := 144) dX5_bestCorner_80 (by decide) (q := 83) rfl ?_ ?_
  · refine s_iinc o 6 rfl (v := (1 : Int32)) (by decide) [1, 2, 3, 4, 5, 6, 0, 7] (lv' := fun v3_ => [(0, rf (xG X) x0), (1, .int x1), (2, .int x2), (3, .int x3), (4, .int x4), (5, .int x5), (6, .int v3_), (7, .int x7)]) (fun _ => rfl) dX5_bestCorner_144 (by decide) (q := 147) rfl (fun v3_ => ?_)
    refine s_goto o (tgt := 61) dX5_bestCorner_147 (by decide) ?_
    exact s_sub [0, 1, 2, 3, 4, 5, 6] rfl (hk61 x0 x1 x2 x3 x4 x5 v3_ h)
  · refine s_aload_n o 0 rfl dX5_bestCorner_83 (q := 84) rfl ?_
    refine s_gr o kf_X5_40 dX5_bestCorner_84 (q := 87) rfl (fun a4_ => ?_)
    refine s_iload_n o 1 rfl dX5_bestCorner_87 (q := 88) rfl ?_
    refine s_iload o 6 rfl dX5_bestCorner_88 (q := 90) rfl ?_
    refine s_iload o 7 rfl dX5_bestCorner_90 (q := 92) rfl ?_
    refine s_on (fun hk5_ => ?_)
    refine s_bi (fun r0 hr0 => runV o hk5_ cv_X5_141 (c_X4_has (xG X) f a4_ x1 x6 x7 h (xl X) r0 hr0) ⟨Nat.le_of_ble_eq_true rfl, Nat.le_of_ble_eq_true rfl⟩ rfl rfl (Nat.le_of_ble_eq_true rfl) dX5_bestCorner_92 ⟨Nat.le_of_ble_eq_true rfl, Nat.le_of_ble_eq_true rfl⟩) (q := 95) rfl (cs' := 0) rfl (sl' := 0) rfl (fun v7_ h6_ => ?_)
    refine s_if_eq o (tgt := 101) dX5_bestCorner_95 (by decide) (q := 98) rfl ?_ ?_
    · refine s_aload_n o 0 rfl dX5_bestCorner_101 (q := 102) rfl ?_
      refine s_gr o kf_X5_62 dX5_bestCorner_102 (q := 105) rfl (fun a8_ => ?_)
      refine s_iload o 6 rfl dX5_bestCorner_105 (q := 107) rfl ?_
      refine s_iload o 7 rfl dX5_bestCorner_107 (q := 109) rfl ?_
      refine s_on (fun hk9_ => ?_)
      refine s_bi (fun r0 hr0 => runV o hk9_ cv_X5_200 (c_X1_leftAtWorst (xG X) f a8_ x6 x7 h6_ (xl X) r0 hr0) ⟨Nat.le_of_ble_eq_true rfl, Nat.le_of_ble_eq_true rfl⟩ rfl rfl (Nat.le_of_ble_eq_true rfl) dX5_bestCorner_109 ⟨Nat.le_of_ble_eq_true rfl, Nat.le_of_ble_eq_true rfl⟩) (q := 112) rfl (cs' := 0) rfl (sl' := 0) rfl (fun v11_ h10_ => ?_)
      refine s_istore o [1, 2, 3, 4, 5, 6, 7, 8, 0] (lv' := [(0, rf (xG X) x0), (1, .int x1), (2, .int x2), (3, .int x3), (4, .int x4), (5, .int x5), (6, .int x6), (7, .int x7), (8, .int v11_)]) rfl dX5_bestCorner_112 (by decide) (q := 114) rfl ?_
      refine s_iload o 5 rfl dX5_bestCorner_114 (q := 116) rfl ?_
      refine s_iconst o dX5_bestCorner_116 (v := (-1 : Int32)) (by decide) (q := 117) rfl ?_
      refine s_ic_eq o (tgt := 127) dX5_bestCorner_117 (by decide) (q := 120) rfl ?_ ?_
      · exact s_sub [0, 1, 2, 6, 7, 8] rfl (t_X5_bestCorner_127 o f hk61 hk71 x0 x1 x2 x6 x7 v11_ h10_)
      · refine s_iload o 8 rfl dX5_bestCorner_120 (q := 122) rfl ?_
        refine s_iload o 5 rfl dX5_bestCorner_122 (q := 124) rfl ?_
        refine s_ic_ge o (tgt := 138) dX5_bestCorner_124 (by decide) (q := 127) rfl ?_ ?_
        · exact s_sub [0, 1, 2, 3, 4, 5, 6, 7] rfl (t_X5_bestCorner_138 o f hk61 hk71 x0 x1 x2 x3 x4 x5 x6 x7 h10_)
        · exact s_sub [0, 1, 2, 6, 7, 8] rfl (t_X5_bestCorner_127 o f hk61 hk71 x0 x1 x2 x6 x7 v11_ h10_)
    · refine s_goto o (tgt := 138) dX5_bestCorner_98 (by decide) ?_
      exact s_sub [0, 1, 2, 3, 4, 5, 6, 7] rfl (t_X5_bestCorner_138 o f hk61 hk71 x0 x1 x2 x3 x4 x5 x6 x7 h6_)
theorem tl_X5_bestCorner_71 {X : Cx} (o : Ok X RX5 cX5_bestCorner 9 7 160 0 0 (some .int)) (f : Nat) {k61 : Nat → Int32 → Int32 → Int32 → Int32 → Int32 → Int32 → Hp → Option (Int32 × Hp)} (hk61 : ∀ (x0 : Nat) (x1 : Int32) (x2 : Int32) (x3 : Int32) (x4 : Int32) (x5 : Int32) (x6 : Int32) (h : Hp), Sim X (z_Zi X 0 0) 0 0 61 [(0, rf (xG X) x0), (1, .int x1), (2, .int x2), (3, .int x3), (4, .int x4), (5, .int x5), (6, .int x6)] [] h (k61 x0 x1 x2 x3 x4 x5 x6 h)) : ∀ (n : Nat) (x0 : Nat) (x1 : Int32) (x2 : Int32) (x3 : Int32) (x4 : Int32) (x5 : Int32) (x6 : Int32) (x7 : Int32) (h : Hp), Sim X (z_Zi X 0 0) 0 0 71 [(0, rf (xG X) x0), (1, .int x1), (2, .int x2), (3, .int x3), (4, .int x4), (5, .int x5), (6, .int x6), (7, .int x7)] [] h (l_X5_bestCorner_71 f k61 n x0 x1 x2 x3 x4 x5 x6 x7 h) := by
  intro n
  induction n with
  | zero => intro x0 x1 x2 x3 x4 x5 x6 x7 h; exact s_none
  | succ n ih => intro x0 x1 x2 x3 x4 x5 x6 x7 h; exact t_X5_bestCorner_71 o f hk61 ih x0 x1 x2 x3 x4 x5 x6 x7 h
set_option maxRecDepth 20000 in
theorem t_X5_bestCorner_61 {X : Cx} (o : Ok X RX5 cX5_bestCorner 9 7 160 0 0 (some .int)) (f : Nat) {k61 : Nat → Int32 → Int32 → Int32 → Int32 → Int32 → Int32 → Hp → Option (Int32 × Hp)} (hk61 : ∀ (x0 : Nat) (x1 : Int32) (x2 : Int32) (x3 : Int32) (x4 : Int32) (x5 : Int32) (x6 : Int32) (h : Hp), Sim X (z_Zi X 0 0) 0 0 61 [(0, rf (xG X) x0), (1, .int x1), (2, .int x2), (3, .int x3), (4, .int x4), (5, .int x5), (6, .int x6)] [] h (k61 x0 x1 x2 x3 x4 x5 x6 h)) (x0 : Nat) (x1 : Int32) (x2 : Int32) (x3 : Int32) (x4 : Int32) (x5 : Int32) (x6 : Int32) (h : Hp) : Sim X (z_Zi X 0 0) 0 0 61 [(0, rf (xG X) x0), (1, .int x1), (2, .int x2), (3, .int x3), (4, .int x4), (5, .int x5), (6, .int x6)] [] h (b_X5_bestCorner_61 f k61 x0 x1 x2 x3 x4 x5 x6 h) := by
  unfold b_X5_bestCorner_61
  refine s_iload o 6 rfl dX5_bestCorner_61 (q := 63) rfl ?_
  refine s_bipush o dX5_bestCorner_63 (v := (6 : Int32)) (by decide) (q := 65) rfl ?_
  refine s_ic_ge o (tgt := 150) dX5_bestCorner_65 (by decide) (q := 68) rfl ?_ ?_
  · refine s_iload_n o 2 rfl dX5_bestCorner_150 (q := 151) rfl ?_
    refine s_if_ne o (tgt := 158) dX5_bestCorner_151 (by decide) (q := 154) rfl ?_ ?_
    · refine s_iload_n o 2 rfl dX5_bestCorner_158 (q := 159) rfl ?_
      refine s_iconst o dX5_bestCorner_159 (v := (1 : Int32)) (by decide) (q := 160) rfl ?_
      refine s_ic_ne o (tgt := 168) dX5_bestCorner_160 (by decide) (q := 163) rfl ?_ ?_
      · refine s_iload o 5 rfl dX5_bestCorner_168 (q := 170) rfl ?_
        exact s_sub [] rfl (t_X5_bestCorner_170 o f x5 h)
      · refine s_iload o 4 rfl dX5_bestCorner_163 (q := 165) rfl ?_
        refine s_goto o (tgt := 170) dX5_bestCorner_165 (by decide) ?_
        exact s_sub [] rfl (t_X5_bestCorner_170 o f x4 h)
    · refine s_iload_n o 3 rfl dX5_bestCorner_154 (q := 155) rfl ?_
      refine s_goto o (tgt := 170) dX5_bestCorner_155 (by decide) ?_
      exact s_sub [] rfl (t_X5_bestCorner_170 o f x3 h)
  · refine s_iconst o dX5_bestCorner_68 (v := (0 : Int32)) (by decide) (q := 69) rfl ?_
    refine s_istore o [1, 2, 3, 4, 5, 6, 7, 0] (lv' := [(0, rf (xG X) x0), (1, .int x1), (2, .int x2), (3, .int x3), (4, .int x4), (5, .int x5), (6, .int x6), (7, .int (0 : Int32))]) rfl dX5_bestCorner_69 (by decide) (q := 71) rfl ?_
    exact s_sub [0, 1, 2, 3, 4, 5, 6, 7] rfl (tl_X5_bestCorner_71 o f hk61 f x0 x1 x2 x3 x4 x5 x6 (0 : Int32) h)
theorem tl_X5_bestCorner_61 {X : Cx} (o : Ok X RX5 cX5_bestCorner 9 7 160 0 0 (some .int)) (f : Nat)  : ∀ (n : Nat) (x0 : Nat) (x1 : Int32) (x2 : Int32) (x3 : Int32) (x4 : Int32) (x5 : Int32) (x6 : Int32) (h : Hp), Sim X (z_Zi X 0 0) 0 0 61 [(0, rf (xG X) x0), (1, .int x1), (2, .int x2), (3, .int x3), (4, .int x4), (5, .int x5), (6, .int x6)] [] h (l_X5_bestCorner_61 f n x0 x1 x2 x3 x4 x5 x6 h) := by
  intro n
  induction n with
  | zero => intro x0 x1 x2 x3 x4 x5 x6 h; exact s_none
  | succ n ih => intro x0 x1 x2 x3 x4 x5 x6 h; exact t_X5_bestCorner_61 o f  ih x0 x1 x2 x3 x4 x5 x6 h
set_option maxRecDepth 20000 in
theorem t_X5_bestCorner_19 {X : Cx} (o : Ok X RX5 cX5_bestCorner 9 7 160 0 0 (some .int)) (f : Nat)   (h : Hp) : Sim X (z_Zi X 0 0) 0 0 19 [] [] h (b_X5_bestCorner_19 f h) := by
  unfold b_X5_bestCorner_19
  refine s_ldc o kc_X5_66 dX5_bestCorner_19 (q := 21) rfl ?_
  exact s_iret o dX5_bestCorner_21
set_option maxRecDepth 20000 in
theorem t_X5_bestCorner_0 {X : Cx} (o : Ok X RX5 cX5_bestCorner 9 7 160 0 0 (some .int)) (f : Nat)  (x0 : Nat) (x1 : Int32) (x2 : Int32) (h : Hp) : Sim X (z_Zi X 0 0) 0 0 0 [(0, rf (xG X) x0), (1, .int x1), (2, .int x2)] [] h (f_X5_bestCorner f x0 x1 x2 h) := by
  unfold f_X5_bestCorner
  refine s_iload_n o 1 rfl dX5_bestCorner_0 (q := 1) rfl ?_
  refine s_bi (fun r0 hr0 => runS o cs_X5_124 (c_X5_isBand (xG X) f x1 h (xl X) r0 hr0) ⟨Nat.le_of_ble_eq_true rfl, Nat.le_of_ble_eq_true rfl⟩ rfl rfl (Nat.le_of_ble_eq_true rfl) dX5_bestCorner_1 ⟨Nat.le_of_ble_eq_true rfl, Nat.le_of_ble_eq_true rfl⟩) (q := 4) rfl (cs' := 0) rfl (sl' := 0) rfl (fun v2_ h1_ => ?_)
  refine s_if_ne o (tgt := 10) dX5_bestCorner_4 (by decide) (q := 7) rfl ?_ ?_
  · refine s_iload_n o 2 rfl dX5_bestCorner_10 (q := 11) rfl ?_
    refine s_if_lt o (tgt := 19) dX5_bestCorner_11 (by decide) (q := 14) rfl ?_ ?_
    · exact s_sub [] rfl (t_X5_bestCorner_19 o f h1_)
    · refine s_iload_n o 2 rfl dX5_bestCorner_14 (q := 15) rfl ?_
      refine s_iconst o dX5_bestCorner_15 (v := (2 : Int32)) (by decide) (q := 16) rfl ?_
      refine s_ic_le o (tgt := 22) dX5_bestCorner_16 (by decide) (q := 19) rfl ?_ ?_
      · refine s_aload_n o 0 rfl dX5_bestCorner_22 (q := 23) rfl ?_
        refine s_gr o kf_X5_62 dX5_bestCorner_23 (q := 26) rfl (fun a3_ => ?_)
        refine s_aload_n o 0 rfl dX5_bestCorner_26 (q := 27) rfl ?_
        refine s_gr o kf_X5_23 dX5_bestCorner_27 (q := 30) rfl (fun a4_ => ?_)
        refine s_aload_n o 0 rfl dX5_bestCorner_30 (q := 31) rfl ?_
        refine s_gr o kf_X5_40 dX5_bestCorner_31 (q := 34) rfl (fun a5_ => ?_)
        refine s_iload_n o 1 rfl dX5_bestCorner_34 (q := 35) rfl ?_
        refine s_on (fun hk6_ => ?_)
        refine s_callv (fun r0 hr0 => runV o hk6_ cv_X5_161 (c_X1_weigh (xG X) f a3_ a4_ a5_ x1 h1_ (xl X) r0 hr0) ⟨Nat.le_of_ble_eq_true rfl, Nat.le_of_ble_eq_true rfl⟩ rfl rfl (Nat.le_of_ble_eq_true rfl) dX5_bestCorner_35 ⟨Nat.le_of_ble_eq_true rfl, Nat.le_of_ble_eq_true rfl⟩) (q := 38) rfl (cs' := 0) rfl (sl' := 0) rfl (fun h7_ => ?_)
        refine s_aload_n o 0 rfl dX5_bestCorner_38 (q := 39) rfl ?_
        refine s_gr o kf_X5_62 dX5_bestCorner_39 (q := 42) rfl (fun a8_ => ?_)
        refine s_gi o kf_X5_165 dX5_bestCorner_42 (q := 45) rfl (fun v9_ => ?_)
        refine s_if_ne o (tgt := 50) dX5_bestCorner_45 (by decide) (q := 48) rfl ?_ ?_
        · refine s_iconst o dX5_bestCorner_50 (v := (-1 : Int32)) (by decide) (q := 51) rfl ?_
          refine s_istore_n o [1, 2, 3, 0] (lv' := [(0, rf (xG X) x0), (1, .int x1), (2, .int x2), (3, .int (-1 : Int32))]) rfl dX5_bestCorner_51 (by decide) (q := 52) rfl ?_
          refine s_iconst o dX5_bestCorner_52 (v := (-1 : Int32)) (by decide) (q := 53) rfl ?_
          refine s_istore o [1, 2, 3, 4, 0] (lv' := [(0, rf (xG X) x0), (1, .int x1), (2, .int x2), (3, .int (-1 : Int32)), (4, .int (-1 : Int32))]) rfl dX5_bestCorner_53 (by decide) (q := 55) rfl ?_
          refine s_iconst o dX5_bestCorner_55 (v := (-1 : Int32)) (by decide) (q := 56) rfl ?_
          refine s_istore o [1, 2, 3, 4, 5, 0] (lv' := [(0, rf (xG X) x0), (1, .int x1), (2, .int x2), (3, .int (-1 : Int32)), (4, .int (-1 : Int32)), (5, .int (-1 : Int32))]) rfl dX5_bestCorner_56 (by decide) (q := 58) rfl ?_
          refine s_iconst o dX5_bestCorner_58 (v := (0 : Int32)) (by decide) (q := 59) rfl ?_
          refine s_istore o [1, 2, 3, 4, 5, 6, 0] (lv' := [(0, rf (xG X) x0), (1, .int x1), (2, .int x2), (3, .int (-1 : Int32)), (4, .int (-1 : Int32)), (5, .int (-1 : Int32)), (6, .int (0 : Int32))]) rfl dX5_bestCorner_59 (by decide) (q := 61) rfl ?_
          exact s_sub [0, 1, 2, 3, 4, 5, 6] rfl (tl_X5_bestCorner_61 o f f x0 x1 x2 (-1 : Int32) (-1 : Int32) (-1 : Int32) (0 : Int32) h7_)
        · refine s_iconst o dX5_bestCorner_48 (v := (-1 : Int32)) (by decide) (q := 49) rfl ?_
          exact s_iret o dX5_bestCorner_49
      · exact s_sub [] rfl (t_X5_bestCorner_19 o f h1_)
  · refine s_ldc o kc_X5_116 dX5_bestCorner_7 (q := 9) rfl ?_
    exact s_iret o dX5_bestCorner_9
theorem c_X5_bestCorner (G : Gx) (f : Nat) (x0 : Nat) (x1 : Int32) (x2 : Int32) (h : Hp) : z_M z_qi G yX5_bestCorner cX5_bestCorner 9 (some .int) 7 160 0 0 [rf G x0, .int x1, .int x2] h (f_X5_bestCorner f x0 x1 x2 h) :=
  z_met (by decide +kernel) (Nat.le_of_ble_eq_true rfl) (fun X hG hn o hnm => by
    subst hG
    show Sim X (z_Zi X 0 0) 0 0 0 [(0, rf (xG X) x0), (1, .int x1), (2, .int x2)] [] h _
    exact s_sub [0, 1, 2] rfl (t_X5_bestCorner_0 o f x0 x1 x2 h))
/-! SixMaps.isMark(I)Z -/
def b_X5_isMark_20 (f : Nat)  (y0 : Int32) (h : Hp) : Option (Int32 × Hp) :=
  q_bo y0 (some (y0, h))
def b_X5_isMark_19 (f : Nat)   (h : Hp) : Option (Int32 × Hp) :=
  b_X5_isMark_20 f (0 : Int32) h
def f_X5_isMark (f : Nat)  (x0 : Nat) (x1 : Int32) (h : Hp) : Option (Int32 × Hp) :=
  if x1 < 0 then
  (b_X5_isMark_19 f h)
  else
  ((q_gr h x0 5 3).bind fun a1_ =>
  (q_gi h a1_ 0 4).bind fun v2_ =>
  if v2_ ≤ x1 then
  (b_X5_isMark_19 f h)
  else
  (b_X5_isMark_20 f (1 : Int32) h))
set_option maxRecDepth 20000 in
theorem t_X5_isMark_20 {X : Cx} (o : Ok X RX5 cX5_isMark 2 0 0 0 0 (some .boolean)) (f : Nat)  (y0 : Int32) (h : Hp) : Sim X (z_Zi X 0 0) 0 0 20 [] [.int y0] h (b_X5_isMark_20 f y0 h) := by
  unfold b_X5_isMark_20
  exact s_zret o dX5_isMark_20
set_option maxRecDepth 20000 in
theorem t_X5_isMark_19 {X : Cx} (o : Ok X RX5 cX5_isMark 2 0 0 0 0 (some .boolean)) (f : Nat)   (h : Hp) : Sim X (z_Zi X 0 0) 0 0 19 [] [] h (b_X5_isMark_19 f h) := by
  unfold b_X5_isMark_19
  refine s_iconst o dX5_isMark_19 (v := (0 : Int32)) (by decide) (q := 20) rfl ?_
  exact s_sub [] rfl (t_X5_isMark_20 o f (0 : Int32) h)
set_option maxRecDepth 20000 in
theorem t_X5_isMark_0 {X : Cx} (o : Ok X RX5 cX5_isMark 2 0 0 0 0 (some .boolean)) (f : Nat)  (x0 : Nat) (x1 : Int32) (h : Hp) : Sim X (z_Zi X 0 0) 0 0 0 [(0, rf (xG X) x0), (1, .int x1)] [] h (f_X5_isMark f x0 x1 h) := by
  unfold f_X5_isMark
  refine s_iload_n o 1 rfl dX5_isMark_0 (q := 1) rfl ?_
  refine s_if_lt o (tgt := 19) dX5_isMark_1 (by decide) (q := 4) rfl ?_ ?_
  · exact s_sub [] rfl (t_X5_isMark_19 o f h)
  · refine s_iload_n o 1 rfl dX5_isMark_4 (q := 5) rfl ?_
    refine s_aload_n o 0 rfl dX5_isMark_5 (q := 6) rfl ?_
    refine s_gr o kf_X5_23 dX5_isMark_6 (q := 9) rfl (fun a1_ => ?_)
    refine s_gi o kf_X5_75 dX5_isMark_9 (q := 12) rfl (fun v2_ => ?_)
    refine s_ic_ge o (tgt := 19) dX5_isMark_12 (by decide) (q := 15) rfl ?_ ?_
    · exact s_sub [] rfl (t_X5_isMark_19 o f h)
    · refine s_iconst o dX5_isMark_15 (v := (1 : Int32)) (by decide) (q := 16) rfl ?_
      refine s_goto o (tgt := 20) dX5_isMark_16 (by decide) ?_
      exact s_sub [] rfl (t_X5_isMark_20 o f (1 : Int32) h)
theorem c_X5_isMark (G : Gx) (f : Nat) (x0 : Nat) (x1 : Int32) (h : Hp) : z_M z_qi G yX5_isMark cX5_isMark 2 (some .boolean) 0 0 0 0 [rf G x0, .int x1] h (f_X5_isMark f x0 x1 h) :=
  z_met (by decide +kernel) (Nat.le_of_ble_eq_true rfl) (fun X hG hn o hnm => by
    subst hG
    show Sim X (z_Zi X 0 0) 0 0 0 [(0, rf (xG X) x0), (1, .int x1)] [] h _
    exact s_sub [0, 1] rfl (t_X5_isMark_0 o f x0 x1 h))
/-! SixMaps.corner(III)I -/
def b_X5_corner_75 (f : Nat)  (y0 : Int32) (h : Hp) : Option (Int32 × Hp) :=
  some (y0, h)
def b_X5_corner_16 (f : Nat)   (h : Hp) : Option (Int32 × Hp) :=
  some ((-1000001 : Int32), h)
def f_X5_corner (f : Nat)  (x0 : Nat) (x1 : Int32) (x2 : Int32) (x3 : Int32) (h : Hp) : Option (Int32 × Hp) :=
  bi (f_X5_areTwoBands f x1 x2 h) fun v2_ h1_ =>
  if v2_ = 0 then
  (b_X5_corner_16 f h1_)
  else
  (q_on h1_ x0 5 (
  bi (f_X5_isMark f x0 x3 h1_) fun v5_ h4_ =>
  if ¬ v5_ = 0 then
  ((q_gr h4_ x0 5 6).bind fun a6_ =>
  q_on h4_ a6_ 4 (
  bi (f_X4_has f a6_ x1 x2 x3 h4_) fun v9_ h8_ =>
  if v9_ = 0 then
  ((q_gr h8_ x0 5 10).bind fun a10_ =>
  (q_gr h8_ x0 5 3).bind fun a11_ =>
  (q_gr h8_ x0 5 6).bind fun a12_ =>
  q_on h8_ a10_ 1 (
  (f_X1_weigh f a10_ a11_ a12_ x1 h8_).bind fun h14_ =>
  (q_gr h14_ x0 5 10).bind fun a15_ =>
  (q_gi h14_ a15_ 1 12).bind fun v16_ =>
  if ¬ v16_ = 0 then
  ((q_gr h14_ x0 5 10).bind fun a17_ =>
  q_on h14_ a17_ 1 (
  bi (f_X1_leftAtWorst f a17_ x2 x3 h14_) fun v20_ h19_ =>
  b_X5_corner_75 f v20_ h19_))
  else
  (b_X5_corner_75 f (-1000003 : Int32) h14_)))
  else
  (some ((-1000003 : Int32), h8_))))
  else
  (b_X5_corner_16 f h4_)))
set_option maxRecDepth 20000 in
theorem t_X5_corner_75 {X : Cx} (o : Ok X RX5 cX5_corner 4 7 160 0 0 (some .int)) (f : Nat)  (y0 : Int32) (h : Hp) : Sim X (z_Zi X 0 0) 0 0 75 [] [.int y0] h (b_X5_corner_75 f y0 h) := by
  unfold b_X5_corner_75
  exact s_iret o dX5_corner_75
set_option maxRecDepth 20000 in
theorem t_X5_corner_16 {X : Cx} (o : Ok X RX5 cX5_corner 4 7 160 0 0 (some .int)) (f : Nat)   (h : Hp) : Sim X (z_Zi X 0 0) 0 0 16 [] [] h (b_X5_corner_16 f h) := by
  unfold b_X5_corner_16
  refine s_ldc o kc_X5_116 dX5_corner_16 (q := 18) rfl ?_
  exact s_iret o dX5_corner_18
set_option maxRecDepth 20000 in
theorem t_X5_corner_0 {X : Cx} (o : Ok X RX5 cX5_corner 4 7 160 0 0 (some .int)) (f : Nat)  (x0 : Nat) (x1 : Int32) (x2 : Int32) (x3 : Int32) (h : Hp) : Sim X (z_Zi X 0 0) 0 0 0 [(0, rf (xG X) x0), (1, .int x1), (2, .int x2), (3, .int x3)] [] h (f_X5_corner f x0 x1 x2 x3 h) := by
  unfold f_X5_corner
  refine s_iload_n o 1 rfl dX5_corner_0 (q := 1) rfl ?_
  refine s_iload_n o 2 rfl dX5_corner_1 (q := 2) rfl ?_
  refine s_bi (fun r0 hr0 => runS o cs_X5_137 (c_X5_areTwoBands (xG X) f x1 x2 h (xl X) r0 hr0) ⟨Nat.le_of_ble_eq_true rfl, Nat.le_of_ble_eq_true rfl⟩ rfl rfl (Nat.le_of_ble_eq_true rfl) dX5_corner_2 ⟨Nat.le_of_ble_eq_true rfl, Nat.le_of_ble_eq_true rfl⟩) (q := 5) rfl (cs' := 0) rfl (sl' := 0) rfl (fun v2_ h1_ => ?_)
  refine s_if_eq o (tgt := 16) dX5_corner_5 (by decide) (q := 8) rfl ?_ ?_
  · exact s_sub [] rfl (t_X5_corner_16 o f h1_)
  · refine s_aload_n o 0 rfl dX5_corner_8 (q := 9) rfl ?_
    refine s_iload_n o 3 rfl dX5_corner_9 (q := 10) rfl ?_
    refine s_on (fun hk3_ => ?_)
    refine s_bi (fun r0 hr0 => runV o hk3_ cv_X5_112 (c_X5_isMark (xG X) f x0 x3 h1_ (xl X) r0 hr0) ⟨Nat.le_of_ble_eq_true rfl, Nat.le_of_ble_eq_true rfl⟩ rfl rfl (Nat.le_of_ble_eq_true rfl) dX5_corner_10 ⟨Nat.le_of_ble_eq_true rfl, Nat.le_of_ble_eq_true rfl⟩) (q := 13) rfl (cs' := 0) rfl (sl' := 0) rfl (fun v5_ h4_ => ?_)
    refine s_if_ne o (tgt := 19) dX5_corner_13 (by decide) (q := 16) rfl ?_ ?_
    · refine s_aload_n o 0 rfl dX5_corner_19 (q := 20) rfl ?_
      refine s_gr o kf_X5_40 dX5_corner_20 (q := 23) rfl (fun a6_ => ?_)
      refine s_iload_n o 1 rfl dX5_corner_23 (q := 24) rfl ?_
      refine s_iload_n o 2 rfl dX5_corner_24 (q := 25) rfl ?_
      refine s_iload_n o 3 rfl dX5_corner_25 (q := 26) rfl ?_
      refine s_on (fun hk7_ => ?_)
      refine s_bi (fun r0 hr0 => runV o hk7_ cv_X5_141 (c_X4_has (xG X) f a6_ x1 x2 x3 h4_ (xl X) r0 hr0) ⟨Nat.le_of_ble_eq_true rfl, Nat.le_of_ble_eq_true rfl⟩ rfl rfl (Nat.le_of_ble_eq_true rfl) dX5_corner_26 ⟨Nat.le_of_ble_eq_true rfl, Nat.le_of_ble_eq_true rfl⟩) (q := 29) rfl (cs' := 0) rfl (sl' := 0) rfl (fun v9_ h8_ => ?_)
      refine s_if_eq o (tgt := 35) dX5_corner_29 (by decide) (q := 32) rfl ?_ ?_
      · refine s_aload_n o 0 rfl dX5_corner_35 (q := 36) rfl ?_
        refine s_gr o kf_X5_62 dX5_corner_36 (q := 39) rfl (fun a10_ => ?_)
        refine s_aload_n o 0 rfl dX5_corner_39 (q := 40) rfl ?_
        refine s_gr o kf_X5_23 dX5_corner_40 (q := 43) rfl (fun a11_ => ?_)
        refine s_aload_n o 0 rfl dX5_corner_43 (q := 44) rfl ?_
        refine s_gr o kf_X5_40 dX5_corner_44 (q := 47) rfl (fun a12_ => ?_)
        refine s_iload_n o 1 rfl dX5_corner_47 (q := 48) rfl ?_
        refine s_on (fun hk13_ => ?_)
        refine s_callv (fun r0 hr0 => runV o hk13_ cv_X5_161 (c_X1_weigh (xG X) f a10_ a11_ a12_ x1 h8_ (xl X) r0 hr0) ⟨Nat.le_of_ble_eq_true rfl, Nat.le_of_ble_eq_true rfl⟩ rfl rfl (Nat.le_of_ble_eq_true rfl) dX5_corner_48 ⟨Nat.le_of_ble_eq_true rfl, Nat.le_of_ble_eq_true rfl⟩) (q := 51) rfl (cs' := 0) rfl (sl' := 0) rfl (fun h14_ => ?_)
        refine s_aload_n o 0 rfl dX5_corner_51 (q := 52) rfl ?_
        refine s_gr o kf_X5_62 dX5_corner_52 (q := 55) rfl (fun a15_ => ?_)
        refine s_gi o kf_X5_165 dX5_corner_55 (q := 58) rfl (fun v16_ => ?_)
        refine s_if_ne o (tgt := 66) dX5_corner_58 (by decide) (q := 61) rfl ?_ ?_
        · refine s_aload_n o 0 rfl dX5_corner_66 (q := 67) rfl ?_
          refine s_gr o kf_X5_62 dX5_corner_67 (q := 70) rfl (fun a17_ => ?_)
          refine s_iload_n o 2 rfl dX5_corner_70 (q := 71) rfl ?_
          refine s_iload_n o 3 rfl dX5_corner_71 (q := 72) rfl ?_
          refine s_on (fun hk18_ => ?_)
          refine s_bi (fun r0 hr0 => runV o hk18_ cv_X5_200 (c_X1_leftAtWorst (xG X) f a17_ x2 x3 h14_ (xl X) r0 hr0) ⟨Nat.le_of_ble_eq_true rfl, Nat.le_of_ble_eq_true rfl⟩ rfl rfl (Nat.le_of_ble_eq_true rfl) dX5_corner_72 ⟨Nat.le_of_ble_eq_true rfl, Nat.le_of_ble_eq_true rfl⟩) (q := 75) rfl (cs' := 0) rfl (sl' := 0) rfl (fun v20_ h19_ => ?_)
          exact s_sub [] rfl (t_X5_corner_75 o f v20_ h19_)
        · refine s_ldc o kc_X5_133 dX5_corner_61 (q := 63) rfl ?_
          refine s_goto o (tgt := 75) dX5_corner_63 (by decide) ?_
          exact s_sub [] rfl (t_X5_corner_75 o f (-1000003 : Int32) h14_)
      · refine s_ldc o kc_X5_133 dX5_corner_32 (q := 34) rfl ?_
        exact s_iret o dX5_corner_34
    · exact s_sub [] rfl (t_X5_corner_16 o f h4_)
theorem c_X5_corner (G : Gx) (f : Nat) (x0 : Nat) (x1 : Int32) (x2 : Int32) (x3 : Int32) (h : Hp) : z_M z_qi G yX5_corner cX5_corner 4 (some .int) 7 160 0 0 [rf G x0, .int x1, .int x2, .int x3] h (f_X5_corner f x0 x1 x2 x3 h) :=
  z_met (by decide +kernel) (Nat.le_of_ble_eq_true rfl) (fun X hG hn o hnm => by
    subst hG
    show Sim X (z_Zi X 0 0) 0 0 0 [(0, rf (xG X) x0), (1, .int x1), (2, .int x2), (3, .int x3)] [] h _
    exact s_sub [0, 1, 2, 3] rfl (t_X5_corner_0 o f x0 x1 x2 x3 h))
/-! SixMaps.digAt(III)V -/
def b_X5_digAt_128 (f : Nat)   (h : Hp) : Option (Hp) :=
  some h
def b_X5_digAt_71 (f : Nat)  (x0 : Nat) (x2 : Int32) (x3 : Int32) (h : Hp) : Option (Hp) :=
  (q_gr h x0 5 6).bind fun a1_ =>
  (q_gi h a1_ 4 4).bind fun v2_ =>
  if (20 : Int32) ≤ v2_ then
  (b_X5_digAt_128 f h)
  else
  ((q_gr h x0 5 6).bind fun a3_ =>
  (q_gr h a3_ 4 1).bind fun a4_ =>
  (q_gr h x0 5 6).bind fun a5_ =>
  (q_gi h a5_ 4 4).bind fun v6_ =>
  (q_as h a4_ 9 v6_ x2).bind fun h7_ =>
  (q_gr h7_ x0 5 6).bind fun a8_ =>
  (q_gr h7_ a8_ 4 2).bind fun a9_ =>
  (q_gr h7_ x0 5 6).bind fun a10_ =>
  (q_gi h7_ a10_ 4 4).bind fun v11_ =>
  (q_as h7_ a9_ 9 v11_ x3).bind fun h12_ =>
  (q_gr h12_ x0 5 6).bind fun a13_ =>
  (q_gi h12_ a13_ 4 4).bind fun v14_ =>
  (q_pi h12_ a13_ 4 4 (v14_ + (1 : Int32))).bind fun h15_ =>
  b_X5_digAt_128 f h15_)
def f_X5_digAt (f : Nat)  (x0 : Nat) (x1 : Int32) (x2 : Int32) (x3 : Int32) (h : Hp) : Option (Hp) :=
  (q_gr h x0 5 6).bind fun a1_ =>
  (q_gr h a1_ 4 3).bind fun a2_ =>
  (q_ai h a2_ 9 x1).bind fun v3_ =>
  (q_gr h x0 5 3).bind fun a4_ =>
  (q_gi h a4_ 0 11).bind fun v5_ =>
  (q_as h a2_ 9 x1 (v3_ - v5_)).bind fun h6_ =>
  (q_gr h6_ x0 5 3).bind fun a7_ =>
  q_on h6_ a7_ 0 (
  bi (f_X0_soughtX f a7_ h6_) fun v10_ h9_ =>
  if ¬ x2 = v10_ then
  (b_X5_digAt_71 f x0 x2 x3 h9_)
  else
  ((q_gr h9_ x0 5 3).bind fun a11_ =>
  q_on h9_ a11_ 0 (
  bi (f_X0_soughtY f a11_ h9_) fun v14_ h13_ =>
  if ¬ x3 = v14_ then
  (b_X5_digAt_71 f x0 x2 x3 h13_)
  else
  ((q_gr h13_ x0 5 6).bind fun a15_ =>
  (q_gr h13_ a15_ 4 3).bind fun a16_ =>
  (q_ai h13_ a16_ 9 x1).bind fun v17_ =>
  (q_gr h13_ x0 5 3).bind fun a18_ =>
  (q_gi h13_ a18_ 0 12).bind fun v19_ =>
  (q_as h13_ a16_ 9 x1 (v17_ + v19_)).bind fun h20_ =>
  (q_gr h20_ x0 5 6).bind fun a21_ =>
  (q_pi h20_ a21_ 4 5 x1).bind fun h22_ =>
  b_X5_digAt_128 f h22_))))
set_option maxRecDepth 20000 in
theorem t_X5_digAt_128 {X : Cx} (o : Ok X RX5 cX5_digAt 4 1 20 0 0 none) (f : Nat)   (h : Hp) : Sim X (z_Zv X 0 0) 0 0 128 [] [] h (b_X5_digAt_128 f h) := by
  unfold b_X5_digAt_128
  exact s_vret o dX5_digAt_128
set_option maxRecDepth 20000 in
theorem t_X5_digAt_71 {X : Cx} (o : Ok X RX5 cX5_digAt 4 1 20 0 0 none) (f : Nat)  (x0 : Nat) (x2 : Int32) (x3 : Int32) (h : Hp) : Sim X (z_Zv X 0 0) 0 0 71 [(0, rf (xG X) x0), (2, .int x2), (3, .int x3)] [] h (b_X5_digAt_71 f x0 x2 x3 h) := by
  unfold b_X5_digAt_71
  refine s_aload_n o 0 rfl dX5_digAt_71 (q := 72) rfl ?_
  refine s_gr o kf_X5_40 dX5_digAt_72 (q := 75) rfl (fun a1_ => ?_)
  refine s_gi o kf_X5_106 dX5_digAt_75 (q := 78) rfl (fun v2_ => ?_)
  refine s_bipush o dX5_digAt_78 (v := (20 : Int32)) (by decide) (q := 80) rfl ?_
  refine s_ic_ge o (tgt := 128) dX5_digAt_80 (by decide) (q := 83) rfl ?_ ?_
  · exact s_sub [] rfl (t_X5_digAt_128 o f h)
  · refine s_aload_n o 0 rfl dX5_digAt_83 (q := 84) rfl ?_
    refine s_gr o kf_X5_40 dX5_digAt_84 (q := 87) rfl (fun a3_ => ?_)
    refine s_gr o kf_X5_256 dX5_digAt_87 (q := 90) rfl (fun a4_ => ?_)
    refine s_aload_n o 0 rfl dX5_digAt_90 (q := 91) rfl ?_
    refine s_gr o kf_X5_40 dX5_digAt_91 (q := 94) rfl (fun a5_ => ?_)
    refine s_gi o kf_X5_106 dX5_digAt_94 (q := 97) rfl (fun v6_ => ?_)
    refine s_iload_n o 1 rfl dX5_digAt_97 (q := 98) rfl ?_
    refine s_iast o dX5_digAt_98 (q := 99) rfl (fun h7_ => ?_)
    refine s_aload_n o 0 rfl dX5_digAt_99 (q := 100) rfl ?_
    refine s_gr o kf_X5_40 dX5_digAt_100 (q := 103) rfl (fun a8_ => ?_)
    refine s_gr o kf_X5_259 dX5_digAt_103 (q := 106) rfl (fun a9_ => ?_)
    refine s_aload_n o 0 rfl dX5_digAt_106 (q := 107) rfl ?_
    refine s_gr o kf_X5_40 dX5_digAt_107 (q := 110) rfl (fun a10_ => ?_)
    refine s_gi o kf_X5_106 dX5_digAt_110 (q := 113) rfl (fun v11_ => ?_)
    refine s_iload_n o 2 rfl dX5_digAt_113 (q := 114) rfl ?_
    refine s_iast o dX5_digAt_114 (q := 115) rfl (fun h12_ => ?_)
    refine s_aload_n o 0 rfl dX5_digAt_115 (q := 116) rfl ?_
    refine s_gr o kf_X5_40 dX5_digAt_116 (q := 119) rfl (fun a13_ => ?_)
    refine s_dup o rfl dX5_digAt_119 (q := 120) rfl ?_
    refine s_gi o kf_X5_106 dX5_digAt_120 (q := 123) rfl (fun v14_ => ?_)
    refine s_iconst o dX5_digAt_123 (v := (1 : Int32)) (by decide) (q := 124) rfl ?_
    refine s_iadd o dX5_digAt_124 (q := 125) rfl ?_
    refine s_pi o kf_X5_106 dX5_digAt_125 (q := 128) rfl (fun h15_ => ?_)
    exact s_sub [] rfl (t_X5_digAt_128 o f h15_)
set_option maxRecDepth 20000 in
theorem t_X5_digAt_0 {X : Cx} (o : Ok X RX5 cX5_digAt 4 1 20 0 0 none) (f : Nat)  (x0 : Nat) (x1 : Int32) (x2 : Int32) (x3 : Int32) (h : Hp) : Sim X (z_Zv X 0 0) 0 0 0 [(0, rf (xG X) x0), (1, .int x1), (2, .int x2), (3, .int x3)] [] h (f_X5_digAt f x0 x1 x2 x3 h) := by
  unfold f_X5_digAt
  refine s_aload_n o 0 rfl dX5_digAt_0 (q := 1) rfl ?_
  refine s_gr o kf_X5_40 dX5_digAt_1 (q := 4) rfl (fun a1_ => ?_)
  refine s_gr o kf_X5_158 dX5_digAt_4 (q := 7) rfl (fun a2_ => ?_)
  refine s_iload_n o 1 rfl dX5_digAt_7 (q := 8) rfl ?_
  refine s_dup2 o rfl rfl dX5_digAt_8 (q := 9) rfl ?_
  refine s_iald o dX5_digAt_9 (q := 10) rfl (fun v3_ => ?_)
  refine s_aload_n o 0 rfl dX5_digAt_10 (q := 11) rfl ?_
  refine s_gr o kf_X5_23 dX5_digAt_11 (q := 14) rfl (fun a4_ => ?_)
  refine s_gi o kf_X5_100 dX5_digAt_14 (q := 17) rfl (fun v5_ => ?_)
  refine s_isub o dX5_digAt_17 (q := 18) rfl ?_
  refine s_iast o dX5_digAt_18 (q := 19) rfl (fun h6_ => ?_)
  refine s_iload_n o 2 rfl dX5_digAt_19 (q := 20) rfl ?_
  refine s_aload_n o 0 rfl dX5_digAt_20 (q := 21) rfl ?_
  refine s_gr o kf_X5_23 dX5_digAt_21 (q := 24) rfl (fun a7_ => ?_)
  refine s_on (fun hk8_ => ?_)
  refine s_bi (fun r0 hr0 => runV o hk8_ cv_X5_250 (c_X0_soughtX (xG X) f a7_ h6_ (xl X) r0 hr0) ⟨Nat.le_of_ble_eq_true rfl, Nat.le_of_ble_eq_true rfl⟩ rfl rfl (Nat.le_of_ble_eq_true rfl) dX5_digAt_24 ⟨Nat.le_of_ble_eq_true rfl, Nat.le_of_ble_eq_true rfl⟩) (q := 27) rfl (cs' := 0) rfl (sl' := 0) rfl (fun v10_ h9_ => ?_)
  refine s_ic_ne o (tgt := 71) dX5_digAt_27 (by decide) (q := 30) rfl ?_ ?_
  · exact s_sub [0, 2, 3] rfl (t_X5_digAt_71 o f x0 x2 x3 h9_)
  · refine s_iload_n o 3 rfl dX5_digAt_30 (q := 31) rfl ?_
    refine s_aload_n o 0 rfl dX5_digAt_31 (q := 32) rfl ?_
    refine s_gr o kf_X5_23 dX5_digAt_32 (q := 35) rfl (fun a11_ => ?_)
    refine s_on (fun hk12_ => ?_)
    refine s_bi (fun r0 hr0 => runV o hk12_ cv_X5_253 (c_X0_soughtY (xG X) f a11_ h9_ (xl X) r0 hr0) ⟨Nat.le_of_ble_eq_true rfl, Nat.le_of_ble_eq_true rfl⟩ rfl rfl (Nat.le_of_ble_eq_true rfl) dX5_digAt_35 ⟨Nat.le_of_ble_eq_true rfl, Nat.le_of_ble_eq_true rfl⟩) (q := 38) rfl (cs' := 0) rfl (sl' := 0) rfl (fun v14_ h13_ => ?_)
    refine s_ic_ne o (tgt := 71) dX5_digAt_38 (by decide) (q := 41) rfl ?_ ?_
    · exact s_sub [0, 2, 3] rfl (t_X5_digAt_71 o f x0 x2 x3 h13_)
    · refine s_aload_n o 0 rfl dX5_digAt_41 (q := 42) rfl ?_
      refine s_gr o kf_X5_40 dX5_digAt_42 (q := 45) rfl (fun a15_ => ?_)
      refine s_gr o kf_X5_158 dX5_digAt_45 (q := 48) rfl (fun a16_ => ?_)
      refine s_iload_n o 1 rfl dX5_digAt_48 (q := 49) rfl ?_
      refine s_dup2 o rfl rfl dX5_digAt_49 (q := 50) rfl ?_
      refine s_iald o dX5_digAt_50 (q := 51) rfl (fun v17_ => ?_)
      refine s_aload_n o 0 rfl dX5_digAt_51 (q := 52) rfl ?_
      refine s_gr o kf_X5_23 dX5_digAt_52 (q := 55) rfl (fun a18_ => ?_)
      refine s_gi o kf_X5_103 dX5_digAt_55 (q := 58) rfl (fun v19_ => ?_)
      refine s_iadd o dX5_digAt_58 (q := 59) rfl ?_
      refine s_iast o dX5_digAt_59 (q := 60) rfl (fun h20_ => ?_)
      refine s_aload_n o 0 rfl dX5_digAt_60 (q := 61) rfl ?_
      refine s_gr o kf_X5_40 dX5_digAt_61 (q := 64) rfl (fun a21_ => ?_)
      refine s_iload_n o 1 rfl dX5_digAt_64 (q := 65) rfl ?_
      refine s_pi o kf_X5_109 dX5_digAt_65 (q := 68) rfl (fun h22_ => ?_)
      refine s_goto o (tgt := 128) dX5_digAt_68 (by decide) ?_
      exact s_sub [] rfl (t_X5_digAt_128 o f h22_)
theorem c_X5_digAt (G : Gx) (f : Nat) (x0 : Nat) (x1 : Int32) (x2 : Int32) (x3 : Int32) (h : Hp) : z_M z_qv G yX5_digAt cX5_digAt 4 none 1 20 0 0 [rf G x0, .int x1, .int x2, .int x3] h (f_X5_digAt f x0 x1 x2 x3 h) :=
  z_met (by decide +kernel) (Nat.le_of_ble_eq_true rfl) (fun X hG hn o hnm => by
    subst hG
    show Sim X (z_Zv X 0 0) 0 0 0 [(0, rf (xG X) x0), (1, .int x1), (2, .int x2), (3, .int x3)] [] h _
    exact s_sub [0, 1, 2, 3] rfl (t_X5_digAt_0 o f x0 x1 x2 x3 h))
/-! SixMaps.dig(III)I -/
def b_X5_dig_95 (f : Nat)  (y0 : Int32) (h : Hp) : Option (Int32 × Hp) :=
  some (y0, h)
def b_X5_dig_54 (f : Nat)   (h : Hp) : Option (Int32 × Hp) :=
  some ((-1000003 : Int32), h)
def b_X5_dig_30 (f : Nat)   (h : Hp) : Option (Int32 × Hp) :=
  some ((-1000002 : Int32), h)
def f_X5_dig (f : Nat)  (x0 : Nat) (x1 : Int32) (x2 : Int32) (x3 : Int32) (h : Hp) : Option (Int32 × Hp) :=
  bi (f_X5_isBand f x1 h) fun v2_ h1_ =>
  if ¬ v2_ = 0 then
  (if x2 < 0 then
  (b_X5_dig_30 f h1_)
  else
  (if (99 : Int32) < x2 then
  (b_X5_dig_30 f h1_)
  else
  (if x3 < 0 then
  (b_X5_dig_30 f h1_)
  else
  (if x3 ≤ (99 : Int32) then
  ((q_gr h1_ x0 5 3).bind fun a3_ =>
  (q_gi h1_ a3_ 0 4).bind fun v4_ =>
  if v4_ = 0 then
  (b_X5_dig_54 f h1_)
  else
  ((q_gr h1_ x0 5 6).bind fun a5_ =>
  (q_gi h1_ a5_ 4 5).bind fun v6_ =>
  if v6_ = (-1 : Int32) then
  ((q_gr h1_ x0 5 6).bind fun a7_ =>
  (q_gi h1_ a7_ 4 4).bind fun v8_ =>
  if v8_ < (20 : Int32) then
  (q_on h1_ x0 5 (
  (f_X5_digAt f x0 x1 x2 x3 h1_).bind fun h10_ =>
  (q_gr h10_ x0 5 6).bind fun a11_ =>
  (q_gi h10_ a11_ 4 5).bind fun v12_ =>
  if ¬ v12_ = (-1 : Int32) then
  (b_X5_dig_95 f (1 : Int32) h10_)
  else
  (b_X5_dig_95 f (0 : Int32) h10_)))
  else
  (some ((-1000004 : Int32), h1_)))
  else
  (b_X5_dig_54 f h1_)))
  else
  (b_X5_dig_30 f h1_)))))
  else
  (some ((-1000001 : Int32), h1_))
set_option maxRecDepth 20000 in
theorem t_X5_dig_95 {X : Cx} (o : Ok X RX5 cX5_dig 4 2 43 0 0 (some .int)) (f : Nat)  (y0 : Int32) (h : Hp) : Sim X (z_Zi X 0 0) 0 0 95 [] [.int y0] h (b_X5_dig_95 f y0 h) := by
  unfold b_X5_dig_95
  exact s_iret o dX5_dig_95
set_option maxRecDepth 20000 in
theorem t_X5_dig_54 {X : Cx} (o : Ok X RX5 cX5_dig 4 2 43 0 0 (some .int)) (f : Nat)   (h : Hp) : Sim X (z_Zi X 0 0) 0 0 54 [] [] h (b_X5_dig_54 f h) := by
  unfold b_X5_dig_54
  refine s_ldc o kc_X5_133 dX5_dig_54 (q := 56) rfl ?_
  exact s_iret o dX5_dig_56
set_option maxRecDepth 20000 in
theorem t_X5_dig_30 {X : Cx} (o : Ok X RX5 cX5_dig 4 2 43 0 0 (some .int)) (f : Nat)   (h : Hp) : Sim X (z_Zi X 0 0) 0 0 30 [] [] h (b_X5_dig_30 f h) := by
  unfold b_X5_dig_30
  refine s_ldc o kc_X5_66 dX5_dig_30 (q := 32) rfl ?_
  exact s_iret o dX5_dig_32
set_option maxRecDepth 20000 in
theorem t_X5_dig_0 {X : Cx} (o : Ok X RX5 cX5_dig 4 2 43 0 0 (some .int)) (f : Nat)  (x0 : Nat) (x1 : Int32) (x2 : Int32) (x3 : Int32) (h : Hp) : Sim X (z_Zi X 0 0) 0 0 0 [(0, rf (xG X) x0), (1, .int x1), (2, .int x2), (3, .int x3)] [] h (f_X5_dig f x0 x1 x2 x3 h) := by
  unfold f_X5_dig
  refine s_iload_n o 1 rfl dX5_dig_0 (q := 1) rfl ?_
  refine s_bi (fun r0 hr0 => runS o cs_X5_124 (c_X5_isBand (xG X) f x1 h (xl X) r0 hr0) ⟨Nat.le_of_ble_eq_true rfl, Nat.le_of_ble_eq_true rfl⟩ rfl rfl (Nat.le_of_ble_eq_true rfl) dX5_dig_1 ⟨Nat.le_of_ble_eq_true rfl, Nat.le_of_ble_eq_true rfl⟩) (q := 4) rfl (cs' := 0) rfl (sl' := 0) rfl (fun v2_ h1_ => ?_)
  refine s_if_ne o (tgt := 10) dX5_dig_4 (by decide) (q := 7) rfl ?_ ?_
  · refine s_iload_n o 2 rfl dX5_dig_10 (q := 11) rfl ?_
    refine s_if_lt o (tgt := 30) dX5_dig_11 (by decide) (q := 14) rfl ?_ ?_
    · exact s_sub [] rfl (t_X5_dig_30 o f h1_)
    · refine s_iload_n o 2 rfl dX5_dig_14 (q := 15) rfl ?_
      refine s_bipush o dX5_dig_15 (v := (99 : Int32)) (by decide) (q := 17) rfl ?_
      refine s_ic_gt o (tgt := 30) dX5_dig_17 (by decide) (q := 20) rfl ?_ ?_
      · exact s_sub [] rfl (t_X5_dig_30 o f h1_)
      · refine s_iload_n o 3 rfl dX5_dig_20 (q := 21) rfl ?_
        refine s_if_lt o (tgt := 30) dX5_dig_21 (by decide) (q := 24) rfl ?_ ?_
        · exact s_sub [] rfl (t_X5_dig_30 o f h1_)
        · refine s_iload_n o 3 rfl dX5_dig_24 (q := 25) rfl ?_
          refine s_bipush o dX5_dig_25 (v := (99 : Int32)) (by decide) (q := 27) rfl ?_
          refine s_ic_le o (tgt := 33) dX5_dig_27 (by decide) (q := 30) rfl ?_ ?_
          · refine s_aload_n o 0 rfl dX5_dig_33 (q := 34) rfl ?_
            refine s_gr o kf_X5_23 dX5_dig_34 (q := 37) rfl (fun a3_ => ?_)
            refine s_gi o kf_X5_75 dX5_dig_37 (q := 40) rfl (fun v4_ => ?_)
            refine s_if_eq o (tgt := 54) dX5_dig_40 (by decide) (q := 43) rfl ?_ ?_
            · exact s_sub [] rfl (t_X5_dig_54 o f h1_)
            · refine s_aload_n o 0 rfl dX5_dig_43 (q := 44) rfl ?_
              refine s_gr o kf_X5_40 dX5_dig_44 (q := 47) rfl (fun a5_ => ?_)
              refine s_gi o kf_X5_109 dX5_dig_47 (q := 50) rfl (fun v6_ => ?_)
              refine s_iconst o dX5_dig_50 (v := (-1 : Int32)) (by decide) (q := 51) rfl ?_
              refine s_ic_eq o (tgt := 57) dX5_dig_51 (by decide) (q := 54) rfl ?_ ?_
              · refine s_aload_n o 0 rfl dX5_dig_57 (q := 58) rfl ?_
                refine s_gr o kf_X5_40 dX5_dig_58 (q := 61) rfl (fun a7_ => ?_)
                refine s_gi o kf_X5_106 dX5_dig_61 (q := 64) rfl (fun v8_ => ?_)
                refine s_bipush o dX5_dig_64 (v := (20 : Int32)) (by decide) (q := 66) rfl ?_
                refine s_ic_lt o (tgt := 72) dX5_dig_66 (by decide) (q := 69) rfl ?_ ?_
                · refine s_aload_n o 0 rfl dX5_dig_72 (q := 73) rfl ?_
                  refine s_iload_n o 1 rfl dX5_dig_73 (q := 74) rfl ?_
                  refine s_iload_n o 2 rfl dX5_dig_74 (q := 75) rfl ?_
                  refine s_iload_n o 3 rfl dX5_dig_75 (q := 76) rfl ?_
                  refine s_on (fun hk9_ => ?_)
                  refine s_callv (fun r0 hr0 => runV o hk9_ cv_X5_155 (c_X5_digAt (xG X) f x0 x1 x2 x3 h1_ (xl X) r0 hr0) ⟨Nat.le_of_ble_eq_true rfl, Nat.le_of_ble_eq_true rfl⟩ rfl rfl (Nat.le_of_ble_eq_true rfl) dX5_dig_76 ⟨Nat.le_of_ble_eq_true rfl, Nat.le_of_ble_eq_true rfl⟩) (q := 79) rfl (cs' := 0) rfl (sl' := 0) rfl (fun h10_ => ?_)
                  refine s_aload_n o 0 rfl dX5_dig_79 (q := 80) rfl ?_
                  refine s_gr o kf_X5_40 dX5_dig_80 (q := 83) rfl (fun a11_ => ?_)
                  refine s_gi o kf_X5_109 dX5_dig_83 (q := 86) rfl (fun v12_ => ?_)
                  refine s_iconst o dX5_dig_86 (v := (-1 : Int32)) (by decide) (q := 87) rfl ?_
                  refine s_ic_ne o (tgt := 94) dX5_dig_87 (by decide) (q := 90) rfl ?_ ?_
                  · refine s_iconst o dX5_dig_94 (v := (1 : Int32)) (by decide) (q := 95) rfl ?_
                    exact s_sub [] rfl (t_X5_dig_95 o f (1 : Int32) h10_)
                  · refine s_iconst o dX5_dig_90 (v := (0 : Int32)) (by decide) (q := 91) rfl ?_
                    refine s_goto o (tgt := 95) dX5_dig_91 (by decide) ?_
                    exact s_sub [] rfl (t_X5_dig_95 o f (0 : Int32) h10_)
                · refine s_ldc o kc_X5_67 dX5_dig_69 (q := 71) rfl ?_
                  exact s_iret o dX5_dig_71
              · exact s_sub [] rfl (t_X5_dig_54 o f h1_)
          · exact s_sub [] rfl (t_X5_dig_30 o f h1_)
  · refine s_ldc o kc_X5_116 dX5_dig_7 (q := 9) rfl ?_
    exact s_iret o dX5_dig_9
theorem c_X5_dig (G : Gx) (f : Nat) (x0 : Nat) (x1 : Int32) (x2 : Int32) (x3 : Int32) (h : Hp) : z_M z_qi G yX5_dig cX5_dig 4 (some .int) 2 43 0 0 [rf G x0, .int x1, .int x2, .int x3] h (f_X5_dig f x0 x1 x2 x3 h) :=
  z_met (by decide +kernel) (Nat.le_of_ble_eq_true rfl) (fun X hG hn o hnm => by
    subst hG
    show Sim X (z_Zi X 0 0) 0 0 0 [(0, rf (xG X) x0), (1, .int x1), (2, .int x2), (3, .int x3)] [] h _
    exact s_sub [0, 1, 2, 3] rfl (t_X5_dig_0 o f x0 x1 x2 x3 h))
/-! SixMaps.fault()I -/
def f_X5_fault (f : Nat)  (x0 : Nat) (h : Hp) : Option (Int32 × Hp) :=
  (q_gi h x0 5 2).bind fun v1_ =>
  some (v1_, h)
set_option maxRecDepth 20000 in
theorem t_X5_fault_0 {X : Cx} (o : Ok X RX5 cX5_fault 1 0 0 0 0 (some .int)) (f : Nat)  (x0 : Nat) (h : Hp) : Sim X (z_Zi X 0 0) 0 0 0 [(0, rf (xG X) x0)] [] h (f_X5_fault f x0 h) := by
  unfold f_X5_fault
  refine s_aload_n o 0 rfl dX5_fault_0 (q := 1) rfl ?_
  refine s_gi o kf_X5_17 dX5_fault_1 (q := 4) rfl (fun v1_ => ?_)
  exact s_iret o dX5_fault_4
theorem c_X5_fault (G : Gx) (f : Nat) (x0 : Nat) (h : Hp) : z_M z_qi G yX5_fault cX5_fault 1 (some .int) 0 0 0 0 [rf G x0] h (f_X5_fault f x0 h) :=
  z_met (by decide +kernel) (Nat.le_of_ble_eq_true rfl) (fun X hG hn o hnm => by
    subst hG
    show Sim X (z_Zi X 0 0) 0 0 0 [(0, rf (xG X) x0)] [] h _
    exact s_sub [0] rfl (t_X5_fault_0 o f x0 h))
/-! SixMaps.feed(IJ)I -/
def b_X5_feed_34 (f : Nat) (k34 : Nat → Int64 → Int32 → Hp → Option (Int32 × Hp)) (x0 : Nat) (x2 : Int64) (x4 : Int32) (h : Hp) : Option (Int32 × Hp) :=
  if x4 < 0 then
  ((q_gi h x0 5 1).bind fun v1_ =>
  some (v1_, h))
  else
  ((q_gr h x0 5 0).bind fun a2_ =>
  (q_gi h x0 5 1).bind fun v3_ =>
  (q_as h a2_ 8 v3_ (vp_nar .byte ((((x2.toUInt64 >>> (((8 : Int32) * x4).toInt64.toUInt64 &&& Int64.toUInt64 63)).toInt64).toInt32).toInt8.toInt32))).bind fun h4_ =>
  (q_gi h4_ x0 5 1).bind fun v5_ =>
  (q_pi h4_ x0 5 1 (v5_ + (1 : Int32))).bind fun h6_ =>
  lt (x4 + (-1 : Int32)) fun v7_ =>
  k34 x0 x2 v7_ h6_)
def l_X5_feed_34 (f : Nat)  : Nat → Nat → Int64 → Int32 → Hp → Option (Int32 × Hp)
  | 0, _, _, _, _ => none
  | n + 1, x0, x2, x4, h => b_X5_feed_34 f  (l_X5_feed_34 f  n) x0 x2 x4 h
def b_X5_feed_11 (f : Nat)   (h : Hp) : Option (Int32 × Hp) :=
  some ((-1000002 : Int32), h)
def f_X5_feed (f : Nat)  (x0 : Nat) (x1 : Int32) (x2 : Int64) (h : Hp) : Option (Int32 × Hp) :=
  if x1 < (1 : Int32) then
  (b_X5_feed_11 f h)
  else
  (if x1 ≤ (8 : Int32) then
  ((q_gi h x0 5 1).bind fun v1_ =>
  if (v1_ + x1) ≤ (400 : Int32) then
  (lt (x1 - (1 : Int32)) fun v2_ =>
  l_X5_feed_34 f f x0 x2 v2_ h)
  else
  (some ((-1000004 : Int32), h)))
  else
  (b_X5_feed_11 f h))
set_option maxRecDepth 20000 in
theorem t_X5_feed_34 {X : Cx} (o : Ok X RX5 cX5_feed 5 0 0 0 0 (some .int)) (f : Nat) {k34 : Nat → Int64 → Int32 → Hp → Option (Int32 × Hp)} (hk34 : ∀ (x0 : Nat) (x2 : Int64) (x4 : Int32) (h : Hp), Sim X (z_Zi X 0 0) 0 0 34 [(0, rf (xG X) x0), (2, .long x2), (4, .int x4)] [] h (k34 x0 x2 x4 h)) (x0 : Nat) (x2 : Int64) (x4 : Int32) (h : Hp) : Sim X (z_Zi X 0 0) 0 0 34 [(0, rf (xG X) x0), (2, .long x2), (4, .int x4)] [] h (b_X5_feed_34 f k34 x0 x2 x4 h) := by
  unfold b_X5_feed_34
  refine s_iload o 2 rfl dX5_feed_34 (q := 36) rfl ?_
  refine s_if_lt o (tgt := 73) dX5_feed_36 (by decide) (q := 39) rfl ?_ ?_
  · refine s_aload_n o 0 rfl dX5_feed_73 (q := 74) rfl ?_
    refine s_gi o kf_X5_13 dX5_feed_74 (q := 77) rfl (fun v1_ => ?_)
    exact s_iret o dX5_feed_77
  · refine s_aload_n o 0 rfl dX5_feed_39 (q := 40) rfl ?_
    refine s_gr o kf_X5_9 dX5_feed_40 (q := 43) rfl (fun a2_ => ?_)
    refine s_aload_n o 0 rfl dX5_feed_43 (q := 44) rfl ?_
    refine s_gi o kf_X5_13 dX5_feed_44 (q := 47) rfl (fun v3_ => ?_)
    refine s_lload_n o 1 rfl dX5_feed_47 (q := 48) rfl ?_
    refine s_bipush o dX5_feed_48 (v := (8 : Int32)) (by decide) (q := 50) rfl ?_
    refine s_iload o 2 rfl dX5_feed_50 (q := 52) rfl ?_
    refine s_imul o dX5_feed_52 (q := 53) rfl ?_
    refine s_lushr o dX5_feed_53 (q := 54) rfl ?_
    refine s_l2i o dX5_feed_54 (q := 55) rfl ?_
    refine s_i2b o dX5_feed_55 (q := 56) rfl ?_
    refine s_bast o dX5_feed_56 (q := 57) rfl (fun h4_ => ?_)
    refine s_aload_n o 0 rfl dX5_feed_57 (q := 58) rfl ?_
    refine s_dup o rfl dX5_feed_58 (q := 59) rfl ?_
    refine s_gi o kf_X5_13 dX5_feed_59 (q := 62) rfl (fun v5_ => ?_)
    refine s_iconst o dX5_feed_62 (v := (1 : Int32)) (by decide) (q := 63) rfl ?_
    refine s_iadd o dX5_feed_63 (q := 64) rfl ?_
    refine s_pi o kf_X5_13 dX5_feed_64 (q := 67) rfl (fun h6_ => ?_)
    refine s_iinc o 2 rfl (v := (-1 : Int32)) (by decide) [1, 2, 0] (lv' := fun v7_ => [(0, rf (xG X) x0), (2, .long x2), (4, .int v7_)]) (fun _ => rfl) dX5_feed_67 (by decide) (q := 70) rfl (fun v7_ => ?_)
    refine s_goto o (tgt := 34) dX5_feed_70 (by decide) ?_
    exact s_sub [0, 1, 2] rfl (hk34 x0 x2 v7_ h6_)
theorem tl_X5_feed_34 {X : Cx} (o : Ok X RX5 cX5_feed 5 0 0 0 0 (some .int)) (f : Nat)  : ∀ (n : Nat) (x0 : Nat) (x2 : Int64) (x4 : Int32) (h : Hp), Sim X (z_Zi X 0 0) 0 0 34 [(0, rf (xG X) x0), (2, .long x2), (4, .int x4)] [] h (l_X5_feed_34 f n x0 x2 x4 h) := by
  intro n
  induction n with
  | zero => intro x0 x2 x4 h; exact s_none
  | succ n ih => intro x0 x2 x4 h; exact t_X5_feed_34 o f  ih x0 x2 x4 h
set_option maxRecDepth 20000 in
theorem t_X5_feed_11 {X : Cx} (o : Ok X RX5 cX5_feed 5 0 0 0 0 (some .int)) (f : Nat)   (h : Hp) : Sim X (z_Zi X 0 0) 0 0 11 [] [] h (b_X5_feed_11 f h) := by
  unfold b_X5_feed_11
  refine s_ldc o kc_X5_66 dX5_feed_11 (q := 13) rfl ?_
  exact s_iret o dX5_feed_13
set_option maxRecDepth 20000 in
theorem t_X5_feed_0 {X : Cx} (o : Ok X RX5 cX5_feed 5 0 0 0 0 (some .int)) (f : Nat)  (x0 : Nat) (x1 : Int32) (x2 : Int64) (h : Hp) : Sim X (z_Zi X 0 0) 0 0 0 [(0, rf (xG X) x0), (1, .int x1), (2, .long x2)] [] h (f_X5_feed f x0 x1 x2 h) := by
  unfold f_X5_feed
  refine s_iload_n o 1 rfl dX5_feed_0 (q := 1) rfl ?_
  refine s_iconst o dX5_feed_1 (v := (1 : Int32)) (by decide) (q := 2) rfl ?_
  refine s_ic_lt o (tgt := 11) dX5_feed_2 (by decide) (q := 5) rfl ?_ ?_
  · exact s_sub [] rfl (t_X5_feed_11 o f h)
  · refine s_iload_n o 1 rfl dX5_feed_5 (q := 6) rfl ?_
    refine s_bipush o dX5_feed_6 (v := (8 : Int32)) (by decide) (q := 8) rfl ?_
    refine s_ic_le o (tgt := 14) dX5_feed_8 (by decide) (q := 11) rfl ?_ ?_
    · refine s_aload_n o 0 rfl dX5_feed_14 (q := 15) rfl ?_
      refine s_gi o kf_X5_13 dX5_feed_15 (q := 18) rfl (fun v1_ => ?_)
      refine s_iload_n o 1 rfl dX5_feed_18 (q := 19) rfl ?_
      refine s_iadd o dX5_feed_19 (q := 20) rfl ?_
      refine s_sipush o dX5_feed_20 (v := (400 : Int32)) (by decide) (q := 23) rfl ?_
      refine s_ic_le o (tgt := 29) dX5_feed_23 (by decide) (q := 26) rfl ?_ ?_
      · refine s_iload_n o 1 rfl dX5_feed_29 (q := 30) rfl ?_
        refine s_iconst o dX5_feed_30 (v := (1 : Int32)) (by decide) (q := 31) rfl ?_
        refine s_isub o dX5_feed_31 (q := 32) rfl ?_
        refine s_let (fun v2_ => ?_)
        refine s_istore o [1, 2, 3, 0] (lv' := [(0, rf (xG X) x0), (1, .int x1), (2, .long x2), (4, .int v2_)]) rfl dX5_feed_32 (by decide) (q := 34) rfl ?_
        exact s_sub [0, 2, 3] rfl (tl_X5_feed_34 o f f x0 x2 v2_ h)
      · refine s_ldc o kc_X5_67 dX5_feed_26 (q := 28) rfl ?_
        exact s_iret o dX5_feed_28
    · exact s_sub [] rfl (t_X5_feed_11 o f h)
theorem c_X5_feed (G : Gx) (f : Nat) (x0 : Nat) (x1 : Int32) (x2 : Int64) (h : Hp) : z_M z_qi G yX5_feed cX5_feed 5 (some .int) 0 0 0 0 [rf G x0, .int x1, .long x2] h (f_X5_feed f x0 x1 x2 h) :=
  z_met (by decide +kernel) (Nat.le_of_ble_eq_true rfl) (fun X hG hn o hnm => by
    subst hG
    show Sim X (z_Zi X 0 0) 0 0 0 [(0, rf (xG X) x0), (1, .int x1), (2, .long x2)] [] h _
    exact s_sub [0, 1, 2] rfl (t_X5_feed_0 o f x0 x1 x2 h))
