/-! SixMapsModel.purse(I)I -/
def b_X6_purse_19 (f : Nat)  (y0 : Int32) (h : Hp) : Option (Int32 × Hp) :=
  some (y0, h)
def f_X6_purse (f : Nat)  (x0 : Nat) (x1 : Int32) (h : Hp) : Option (Int32 × Hp) :=
  bi (f_X6_isBand f x1 h) fun v2_ h1_ =>
  if v2_ = 0 then
  (b_X6_purse_19 f (-1000001 : Int32) h1_)
  else
  ((q_gr h1_ x0 6 12).bind fun a3_ =>
  (q_ai h1_ a3_ 9 x1).bind fun v4_ =>
  b_X6_purse_19 f v4_ h1_)
set_option maxRecDepth 20000 in
theorem t_X6_purse_19 {X : Cx} (o : Ok X RX6 cX6_purse 2 2 45 0 0 (some .int)) (f : Nat)  (y0 : Int32) (h : Hp) : Sim X (z_Zi X 0 0) 0 0 19 [] [.int y0] h (b_X6_purse_19 f y0 h) := by
  unfold b_X6_purse_19
  exact s_iret o dX6_purse_19
set_option maxRecDepth 20000 in
theorem t_X6_purse_0 {X : Cx} (o : Ok X RX6 cX6_purse 2 2 45 0 0 (some .int)) (f : Nat)  (x0 : Nat) (x1 : Int32) (h : Hp) : Sim X (z_Zi X 0 0) 0 0 0 [(0, rf (xG X) x0), (1, .int x1)] [] h (f_X6_purse f x0 x1 h) := by
  unfold f_X6_purse
  refine s_iload_n o 1 rfl dX6_purse_0 (q := 1) rfl ?_
  refine s_bi (fun r0 hr0 => runS o cs_X6_267 (c_X6_isBand (xG X) f x1 h (xl X) r0 hr0) ⟨Nat.le_of_ble_eq_true rfl, Nat.le_of_ble_eq_true rfl⟩ rfl rfl (Nat.le_of_ble_eq_true rfl) dX6_purse_1 ⟨Nat.le_of_ble_eq_true rfl, Nat.le_of_ble_eq_true rfl⟩) (q := 4) rfl (cs' := 0) rfl (sl' := 0) rfl (fun v2_ h1_ => ?_)
  refine s_if_eq o (tgt := 16) dX6_purse_4 (by decide) (q := 7) rfl ?_ ?_
  · refine s_ldcw o kc_X6_266 dX6_purse_16 (q := 19) rfl ?_
    exact s_sub [] rfl (t_X6_purse_19 o f (-1000001 : Int32) h1_)
  · refine s_aload_n o 0 rfl dX6_purse_7 (q := 8) rfl ?_
    refine s_gr o kf_X6_35 dX6_purse_8 (q := 11) rfl (fun a3_ => ?_)
    refine s_iload_n o 1 rfl dX6_purse_11 (q := 12) rfl ?_
    refine s_iald o dX6_purse_12 (q := 13) rfl (fun v4_ => ?_)
    refine s_goto o (tgt := 19) dX6_purse_13 (by decide) ?_
    exact s_sub [] rfl (t_X6_purse_19 o f v4_ h1_)
theorem c_X6_purse (G : Gx) (f : Nat) (x0 : Nat) (x1 : Int32) (h : Hp) : z_M z_qi G yX6_purse cX6_purse 2 (some .int) 2 45 0 0 [rf G x0, .int x1] h (f_X6_purse f x0 x1 h) :=
  z_met (by decide +kernel) (Nat.le_of_ble_eq_true rfl) (fun X hG hn o hnm => by
    subst hG
    show Sim X (z_Zi X 0 0) 0 0 0 [(0, rf (xG X) x0), (1, .int x1)] [] h _
    exact s_sub [0, 1] rfl (t_X6_purse_0 o f x0 x1 h))
/-! SixMapsModel.say(IIZ)I -/
def b_X6_say_14 (f : Nat)   (h : Hp) : Option (Int32 × Hp) :=
  some ((-1000001 : Int32), h)
def f_X6_say (f : Nat)  (x0 : Nat) (x1 : Int32) (x2 : Int32) (x3 : Int32) (h : Hp) : Option (Int32 × Hp) :=
  bi (f_X6_isBand f x1 h) fun v2_ h1_ =>
  if v2_ = 0 then
  (b_X6_say_14 f h1_)
  else
  (bi (f_X6_isBand f x2 h1_) fun v4_ h3_ =>
  if ¬ v4_ = 0 then
  ((q_gi h3_ x0 6 50).bind fun v5_ =>
  if ¬ v5_ = (20 : Int32) then
  ((q_gr h3_ x0 6 51).bind fun a6_ =>
  (q_gi h3_ x0 6 50).bind fun v7_ =>
  (q_as h3_ a6_ 9 v7_ x1).bind fun h8_ =>
  (q_gr h8_ x0 6 52).bind fun a9_ =>
  (q_gi h8_ x0 6 50).bind fun v10_ =>
  (q_as h8_ a9_ 9 v10_ x2).bind fun h11_ =>
  (q_gr h11_ x0 6 53).bind fun a12_ =>
  (q_gi h11_ x0 6 50).bind fun v13_ =>
  (q_as h11_ a12_ 10 v13_ (vp_nar .boolean x3)).bind fun h14_ =>
  (q_gi h14_ x0 6 50).bind fun v15_ =>
  (q_pi h14_ x0 6 50 (v15_ + (1 : Int32))).bind fun h16_ =>
  (q_gi h16_ x0 6 50).bind fun v17_ =>
  some ((v17_ - (1 : Int32)), h16_))
  else
  (some ((-1000004 : Int32), h3_)))
  else
  (b_X6_say_14 f h3_))
set_option maxRecDepth 20000 in
theorem t_X6_say_14 {X : Cx} (o : Ok X RX6 cX6_say 4 2 45 0 0 (some .int)) (f : Nat)   (h : Hp) : Sim X (z_Zi X 0 0) 0 0 14 [] [] h (b_X6_say_14 f h) := by
  unfold b_X6_say_14
  refine s_ldcw o kc_X6_266 dX6_say_14 (q := 17) rfl ?_
  exact s_iret o dX6_say_17
set_option maxRecDepth 20000 in
theorem t_X6_say_0 {X : Cx} (o : Ok X RX6 cX6_say 4 2 45 0 0 (some .int)) (f : Nat)  (x0 : Nat) (x1 : Int32) (x2 : Int32) (x3 : Int32) (h : Hp) : Sim X (z_Zi X 0 0) 0 0 0 [(0, rf (xG X) x0), (1, .int x1), (2, .int x2), (3, .int x3)] [] h (f_X6_say f x0 x1 x2 x3 h) := by
  unfold f_X6_say
  refine s_iload_n o 1 rfl dX6_say_0 (q := 1) rfl ?_
  refine s_bi (fun r0 hr0 => runS o cs_X6_267 (c_X6_isBand (xG X) f x1 h (xl X) r0 hr0) ⟨Nat.le_of_ble_eq_true rfl, Nat.le_of_ble_eq_true rfl⟩ rfl rfl (Nat.le_of_ble_eq_true rfl) dX6_say_1 ⟨Nat.le_of_ble_eq_true rfl, Nat.le_of_ble_eq_true rfl⟩) (q := 4) rfl (cs' := 0) rfl (sl' := 0) rfl (fun v2_ h1_ => ?_)
  refine s_if_eq o (tgt := 14) dX6_say_4 (by decide) (q := 7) rfl ?_ ?_
  · exact s_sub [] rfl (t_X6_say_14 o f h1_)
  · refine s_iload_n o 2 rfl dX6_say_7 (q := 8) rfl ?_
    refine s_bi (fun r0 hr0 => runS o cs_X6_267 (c_X6_isBand (xG X) f x2 h1_ (xl X) r0 hr0) ⟨Nat.le_of_ble_eq_true rfl, Nat.le_of_ble_eq_true rfl⟩ rfl rfl (Nat.le_of_ble_eq_true rfl) dX6_say_8 ⟨Nat.le_of_ble_eq_true rfl, Nat.le_of_ble_eq_true rfl⟩) (q := 11) rfl (cs' := 0) rfl (sl' := 0) rfl (fun v4_ h3_ => ?_)
    refine s_if_ne o (tgt := 18) dX6_say_11 (by decide) (q := 14) rfl ?_ ?_
    · refine s_aload_n o 0 rfl dX6_say_18 (q := 19) rfl ?_
      refine s_gi o kf_X6_259 dX6_say_19 (q := 22) rfl (fun v5_ => ?_)
      refine s_bipush o dX6_say_22 (v := (20 : Int32)) (by decide) (q := 24) rfl ?_
      refine s_ic_ne o (tgt := 30) dX6_say_24 (by decide) (q := 27) rfl ?_ ?_
      · refine s_aload_n o 0 rfl dX6_say_30 (q := 31) rfl ?_
        refine s_gr o kf_X6_93 dX6_say_31 (q := 34) rfl (fun a6_ => ?_)
        refine s_aload_n o 0 rfl dX6_say_34 (q := 35) rfl ?_
        refine s_gi o kf_X6_259 dX6_say_35 (q := 38) rfl (fun v7_ => ?_)
        refine s_iload_n o 1 rfl dX6_say_38 (q := 39) rfl ?_
        refine s_iast o dX6_say_39 (q := 40) rfl (fun h8_ => ?_)
        refine s_aload_n o 0 rfl dX6_say_40 (q := 41) rfl ?_
        refine s_gr o kf_X6_96 dX6_say_41 (q := 44) rfl (fun a9_ => ?_)
        refine s_aload_n o 0 rfl dX6_say_44 (q := 45) rfl ?_
        refine s_gi o kf_X6_259 dX6_say_45 (q := 48) rfl (fun v10_ => ?_)
        refine s_iload_n o 2 rfl dX6_say_48 (q := 49) rfl ?_
        refine s_iast o dX6_say_49 (q := 50) rfl (fun h11_ => ?_)
        refine s_aload_n o 0 rfl dX6_say_50 (q := 51) rfl ?_
        refine s_gr o kf_X6_99 dX6_say_51 (q := 54) rfl (fun a12_ => ?_)
        refine s_aload_n o 0 rfl dX6_say_54 (q := 55) rfl ?_
        refine s_gi o kf_X6_259 dX6_say_55 (q := 58) rfl (fun v13_ => ?_)
        refine s_iload_n o 3 rfl dX6_say_58 (q := 59) rfl ?_
        refine s_zast o dX6_say_59 (q := 60) rfl (fun h14_ => ?_)
        refine s_aload_n o 0 rfl dX6_say_60 (q := 61) rfl ?_
        refine s_dup o rfl dX6_say_61 (q := 62) rfl ?_
        refine s_gi o kf_X6_259 dX6_say_62 (q := 65) rfl (fun v15_ => ?_)
        refine s_iconst o dX6_say_65 (v := (1 : Int32)) (by decide) (q := 66) rfl ?_
        refine s_iadd o dX6_say_66 (q := 67) rfl ?_
        refine s_pi o kf_X6_259 dX6_say_67 (q := 70) rfl (fun h16_ => ?_)
        refine s_aload_n o 0 rfl dX6_say_70 (q := 71) rfl ?_
        refine s_gi o kf_X6_259 dX6_say_71 (q := 74) rfl (fun v17_ => ?_)
        refine s_iconst o dX6_say_74 (v := (1 : Int32)) (by decide) (q := 75) rfl ?_
        refine s_isub o dX6_say_75 (q := 76) rfl ?_
        exact s_iret o dX6_say_76
      · refine s_ldc o kc_X6_129 dX6_say_27 (q := 29) rfl ?_
        exact s_iret o dX6_say_29
    · exact s_sub [] rfl (t_X6_say_14 o f h3_)
theorem c_X6_say (G : Gx) (f : Nat) (x0 : Nat) (x1 : Int32) (x2 : Int32) (x3 : Int32) (h : Hp) : z_M z_qi G yX6_say cX6_say 4 (some .int) 2 45 0 0 [rf G x0, .int x1, .int x2, .int x3] h (f_X6_say f x0 x1 x2 x3 h) :=
  z_met (by decide +kernel) (Nat.le_of_ble_eq_true rfl) (fun X hG hn o hnm => by
    subst hG
    show Sim X (z_Zi X 0 0) 0 0 0 [(0, rf (xG X) x0), (1, .int x1), (2, .int x2), (3, .int x3)] [] h _
    exact s_sub [0, 1, 2, 3] rfl (t_X6_say_0 o f x0 x1 x2 x3 h))
/-! SixMapsModel.saying(II)I -/
def b_X6_saying_146 (f : Nat)  (y0 : Int32) (h : Hp) : Option (Int32 × Hp) :=
  some (y0, h)
def b_X6_saying_124 (f : Nat) (k59 : Nat → Int32 → Int32 → Int32 → Int32 → Hp → Option (Int32 × Hp)) (x0 : Nat) (x1 : Int32) (x3 : Int32) (x4 : Int32) (x5 : Int32) (h : Hp) : Option (Int32 × Hp) :=
  lt (x5 + (1 : Int32)) fun v1_ =>
  k59 x0 x1 x3 x4 v1_ h
def b_X6_saying_122 (f : Nat) (k59 : Nat → Int32 → Int32 → Int32 → Int32 → Hp → Option (Int32 × Hp)) (x0 : Nat) (x1 : Int32) (x4 : Int32) (x5 : Int32) (y0 : Int32) (y1 : Int32) (h : Hp) : Option (Int32 × Hp) :=
  lt (y0 + y1) fun v1_ =>
  b_X6_saying_124 f k59 x0 x1 v1_ x4 x5 h
def b_X6_saying_59 (f : Nat) (k59 : Nat → Int32 → Int32 → Int32 → Int32 → Hp → Option (Int32 × Hp)) (x0 : Nat) (x1 : Int32) (x3 : Int32) (x4 : Int32) (x5 : Int32) (h : Hp) : Option (Int32 × Hp) :=
  if (64 : Int32) ≤ x5 then
  (if ¬ x4 = 0 then
  (q_nz x4 (
  b_X6_saying_146 f (((100 : Int32) * x3) / x4) h))
  else
  (b_X6_saying_146 f (-1 : Int32) h))
  else
  (bi (f_X6_bits f x5 h) fun v2_ h1_ =>
  (q_gi h1_ x0 6 5).bind fun v3_ =>
  if ¬ v2_ = v3_ then
  (b_X6_saying_124 f k59 x0 x1 x3 x4 x5 h1_)
  else
  ((q_gr h1_ x0 6 51).bind fun a4_ =>
  (q_ai h1_ a4_ 9 x1).bind fun v5_ =>
  q_on h1_ x0 6 (
  bi (f_X6_mayLie f x0 v5_ x5 h1_) fun v8_ h7_ =>
  if v8_ = 0 then
  (b_X6_saying_124 f k59 x0 x1 x3 x4 x5 h7_)
  else
  (lt (x4 + (1 : Int32)) fun v9_ =>
  (q_gr h7_ x0 6 52).bind fun a10_ =>
  (q_ai h7_ a10_ 9 x1).bind fun v11_ =>
  bi (f_X6_has f x5 v11_ h7_) fun v13_ h12_ =>
  (q_gr h12_ x0 6 53).bind fun a14_ =>
  (q_ai h12_ a14_ 10 x1).bind fun v15_ =>
  if ¬ v13_ = v15_ then
  (b_X6_saying_122 f k59 x0 x1 v9_ x5 x3 (0 : Int32) h12_)
  else
  (b_X6_saying_122 f k59 x0 x1 v9_ x5 x3 (1 : Int32) h12_)))))
def l_X6_saying_59 (f : Nat)  : Nat → Nat → Int32 → Int32 → Int32 → Int32 → Hp → Option (Int32 × Hp)
  | 0, _, _, _, _, _, _ => none
  | n + 1, x0, x1, x3, x4, x5, h => b_X6_saying_59 f  (l_X6_saying_59 f  n) x0 x1 x3 x4 x5 h
def b_X6_saying_50 (f : Nat)  (y0 : Int32) (h : Hp) : Option (Int32 × Hp) :=
  some (y0, h)
def f_X6_saying (f : Nat)  (x0 : Nat) (x1 : Int32) (x2 : Int32) (h : Hp) : Option (Int32 × Hp) :=
  (q_gi h x0 6 50).bind fun v1_ =>
  bi (f_X6_in f x1.toInt64 (0 : Int64) ((v1_ - (1 : Int32)).toInt64) h) fun v3_ h2_ =>
  if ¬ v3_ = 0 then
  (bi (f_X6_in f x2.toInt64 (0 : Int64) (1 : Int64) h2_) fun v5_ h4_ =>
  if ¬ v5_ = 0 then
  (if ¬ x2 = 0 then
  (l_X6_saying_59 f f x0 x1 (0 : Int32) (0 : Int32) (0 : Int32) h4_)
  else
  (q_on h4_ x0 6 (
  bi (f_X6_isTrue f x0 x1 h4_) fun v8_ h7_ =>
  if v8_ = 0 then
  (b_X6_saying_50 f (0 : Int32) h7_)
  else
  (b_X6_saying_50 f (1 : Int32) h7_))))
  else
  (some ((-1000002 : Int32), h4_)))
  else
  (some ((-1000001 : Int32), h2_))
set_option maxRecDepth 20000 in
theorem t_X6_saying_146 {X : Cx} (o : Ok X RX6 cX6_saying 6 3 76 0 0 (some .int)) (f : Nat)  (y0 : Int32) (h : Hp) : Sim X (z_Zi X 0 0) 0 0 146 [] [.int y0] h (b_X6_saying_146 f y0 h) := by
  unfold b_X6_saying_146
  exact s_iret o dX6_saying_146
set_option maxRecDepth 20000 in
theorem t_X6_saying_124 {X : Cx} (o : Ok X RX6 cX6_saying 6 3 76 0 0 (some .int)) (f : Nat) {k59 : Nat → Int32 → Int32 → Int32 → Int32 → Hp → Option (Int32 × Hp)} (hk59 : ∀ (x0 : Nat) (x1 : Int32) (x3 : Int32) (x4 : Int32) (x5 : Int32) (h : Hp), Sim X (z_Zi X 0 0) 0 0 59 [(0, rf (xG X) x0), (1, .int x1), (3, .int x3), (4, .int x4), (5, .int x5)] [] h (k59 x0 x1 x3 x4 x5 h)) (x0 : Nat) (x1 : Int32) (x3 : Int32) (x4 : Int32) (x5 : Int32) (h : Hp) : Sim X (z_Zi X 0 0) 0 0 124 [(0, rf (xG X) x0), (1, .int x1), (3, .int x3), (4, .int x4), (5, .int x5)] [] h (b_X6_saying_124 f k59 x0 x1 x3 x4 x5 h) := by
  unfold b_X6_saying_124
  refine s_iinc o 4 rfl (v := (1 : Int32)) (by decide) [1, 2, 3, 4, 0] (lv' := fun v1_ => [(0, rf (xG X) x0), (1, .int x1), (3, .int x3), (4, .int x4), (5, .int v1_)]) (fun _ => rfl) dX6_saying_124 (by decide) (q := 127) rfl (fun v1_ => ?_)
  refine s_goto o (tgt := 59) dX6_saying_127 (by decide) ?_
  exact s_sub [0, 1, 2, 3, 4] rfl (hk59 x0 x1 x3 x4 v1_ h)
set_option maxRecDepth 20000 in
theorem t_X6_saying_122 {X : Cx} (o : Ok X RX6 cX6_saying 6 3 76 0 0 (some .int)) (f : Nat) {k59 : Nat → Int32 → Int32 → Int32 → Int32 → Hp → Option (Int32 × Hp)} (hk59 : ∀ (x0 : Nat) (x1 : Int32) (x3 : Int32) (x4 : Int32) (x5 : Int32) (h : Hp), Sim X (z_Zi X 0 0) 0 0 59 [(0, rf (xG X) x0), (1, .int x1), (3, .int x3), (4, .int x4), (5, .int x5)] [] h (k59 x0 x1 x3 x4 x5 h)) (x0 : Nat) (x1 : Int32) (x4 : Int32) (x5 : Int32) (y0 : Int32) (y1 : Int32) (h : Hp) : Sim X (z_Zi X 0 0) 0 0 122 [(0, rf (xG X) x0), (1, .int x1), (4, .int x4), (5, .int x5)] [.int y1, .int y0] h (b_X6_saying_122 f k59 x0 x1 x4 x5 y0 y1 h) := by
  unfold b_X6_saying_122
  refine s_iadd o dX6_saying_122 (q := 123) rfl ?_
  refine s_let (fun v1_ => ?_)
  refine s_istore_n o [1, 2, 0, 3, 4] (lv' := [(0, rf (xG X) x0), (1, .int x1), (3, .int v1_), (4, .int x4), (5, .int x5)]) rfl dX6_saying_123 (by decide) (q := 124) rfl ?_
  exact s_sub [0, 1, 2, 3, 4] rfl (t_X6_saying_124 o f hk59 x0 x1 v1_ x4 x5 h)
set_option maxRecDepth 20000 in
theorem t_X6_saying_59 {X : Cx} (o : Ok X RX6 cX6_saying 6 3 76 0 0 (some .int)) (f : Nat) {k59 : Nat → Int32 → Int32 → Int32 → Int32 → Hp → Option (Int32 × Hp)} (hk59 : ∀ (x0 : Nat) (x1 : Int32) (x3 : Int32) (x4 : Int32) (x5 : Int32) (h : Hp), Sim X (z_Zi X 0 0) 0 0 59 [(0, rf (xG X) x0), (1, .int x1), (3, .int x3), (4, .int x4), (5, .int x5)] [] h (k59 x0 x1 x3 x4 x5 h)) (x0 : Nat) (x1 : Int32) (x3 : Int32) (x4 : Int32) (x5 : Int32) (h : Hp) : Sim X (z_Zi X 0 0) 0 0 59 [(0, rf (xG X) x0), (1, .int x1), (3, .int x3), (4, .int x4), (5, .int x5)] [] h (b_X6_saying_59 f k59 x0 x1 x3 x4 x5 h) := by
  unfold b_X6_saying_59
  refine s_iload o 4 rfl dX6_saying_59 (q := 61) rfl ?_
  refine s_bipush o dX6_saying_61 (v := (64 : Int32)) (by decide) (q := 63) rfl ?_
  refine s_ic_ge o (tgt := 130) dX6_saying_63 (by decide) (q := 66) rfl ?_ ?_
  · refine s_iload o 3 rfl dX6_saying_130 (q := 132) rfl ?_
    refine s_if_ne o (tgt := 139) dX6_saying_132 (by decide) (q := 135) rfl ?_ ?_
    · refine s_bipush o dX6_saying_139 (v := (100 : Int32)) (by decide) (q := 141) rfl ?_
      refine s_iload_n o 2 rfl dX6_saying_141 (q := 142) rfl ?_
      refine s_imul o dX6_saying_142 (q := 143) rfl ?_
      refine s_iload o 3 rfl dX6_saying_143 (q := 145) rfl ?_
      refine s_idiv o dX6_saying_145 (q := 146) rfl ?_
      exact s_sub [] rfl (t_X6_saying_146 o f (((100 : Int32) * x3) / x4) h)
    · refine s_iconst o dX6_saying_135 (v := (-1 : Int32)) (by decide) (q := 136) rfl ?_
      refine s_goto o (tgt := 146) dX6_saying_136 (by decide) ?_
      exact s_sub [] rfl (t_X6_saying_146 o f (-1 : Int32) h)
  · refine s_iload o 4 rfl dX6_saying_66 (q := 68) rfl ?_
    refine s_bi (fun r0 hr0 => runS o cs_X6_306 (c_X6_bits (xG X) f x5 h (xl X) r0 hr0) ⟨Nat.le_of_ble_eq_true rfl, Nat.le_of_ble_eq_true rfl⟩ rfl rfl (Nat.le_of_ble_eq_true rfl) dX6_saying_68 ⟨Nat.le_of_ble_eq_true rfl, Nat.le_of_ble_eq_true rfl⟩) (q := 71) rfl (cs' := 0) rfl (sl' := 0) rfl (fun v2_ h1_ => ?_)
    refine s_aload_n o 0 rfl dX6_saying_71 (q := 72) rfl ?_
    refine s_gi o kf_X6_250 dX6_saying_72 (q := 75) rfl (fun v3_ => ?_)
    refine s_ic_ne o (tgt := 124) dX6_saying_75 (by decide) (q := 78) rfl ?_ ?_
    · exact s_sub [0, 1, 2, 3, 4] rfl (t_X6_saying_124 o f hk59 x0 x1 x3 x4 x5 h1_)
    · refine s_aload_n o 0 rfl dX6_saying_78 (q := 79) rfl ?_
      refine s_aload_n o 0 rfl dX6_saying_79 (q := 80) rfl ?_
      refine s_gr o kf_X6_93 dX6_saying_80 (q := 83) rfl (fun a4_ => ?_)
      refine s_iload_n o 1 rfl dX6_saying_83 (q := 84) rfl ?_
      refine s_iald o dX6_saying_84 (q := 85) rfl (fun v5_ => ?_)
      refine s_iload o 4 rfl dX6_saying_85 (q := 87) rfl ?_
      refine s_on (fun hk6_ => ?_)
      refine s_bi (fun r0 hr0 => runV o hk6_ cv_X6_309 (c_X6_mayLie (xG X) f x0 v5_ x5 h1_ (xl X) r0 hr0) ⟨Nat.le_of_ble_eq_true rfl, Nat.le_of_ble_eq_true rfl⟩ rfl rfl (Nat.le_of_ble_eq_true rfl) dX6_saying_87 ⟨Nat.le_of_ble_eq_true rfl, Nat.le_of_ble_eq_true rfl⟩) (q := 90) rfl (cs' := 0) rfl (sl' := 0) rfl (fun v8_ h7_ => ?_)
      refine s_if_eq o (tgt := 124) dX6_saying_90 (by decide) (q := 93) rfl ?_ ?_
      · exact s_sub [0, 1, 2, 3, 4] rfl (t_X6_saying_124 o f hk59 x0 x1 x3 x4 x5 h7_)
      · refine s_iinc o 3 rfl (v := (1 : Int32)) (by decide) [1, 2, 3, 0, 4] (lv' := fun v9_ => [(0, rf (xG X) x0), (1, .int x1), (3, .int x3), (4, .int v9_), (5, .int x5)]) (fun _ => rfl) dX6_saying_93 (by decide) (q := 96) rfl (fun v9_ => ?_)
        refine s_iload_n o 2 rfl dX6_saying_96 (q := 97) rfl ?_
        refine s_iload o 4 rfl dX6_saying_97 (q := 99) rfl ?_
        refine s_aload_n o 0 rfl dX6_saying_99 (q := 100) rfl ?_
        refine s_gr o kf_X6_96 dX6_saying_100 (q := 103) rfl (fun a10_ => ?_)
        refine s_iload_n o 1 rfl dX6_saying_103 (q := 104) rfl ?_
        refine s_iald o dX6_saying_104 (q := 105) rfl (fun v11_ => ?_)
        refine s_bi (fun r0 hr0 => runS o cs_X6_182 (c_X6_has (xG X) f x5 v11_ h7_ (xl X) r0 hr0) ⟨Nat.le_of_ble_eq_true rfl, Nat.le_of_ble_eq_true rfl⟩ rfl rfl (Nat.le_of_ble_eq_true rfl) dX6_saying_105 ⟨Nat.le_of_ble_eq_true rfl, Nat.le_of_ble_eq_true rfl⟩) (q := 108) rfl (cs' := 0) rfl (sl' := 0) rfl (fun v13_ h12_ => ?_)
        refine s_aload_n o 0 rfl dX6_saying_108 (q := 109) rfl ?_
        refine s_gr o kf_X6_99 dX6_saying_109 (q := 112) rfl (fun a14_ => ?_)
        refine s_iload_n o 1 rfl dX6_saying_112 (q := 113) rfl ?_
        refine s_zald o dX6_saying_113 (q := 114) rfl (fun v15_ => ?_)
        refine s_ic_ne o (tgt := 121) dX6_saying_114 (by decide) (q := 117) rfl ?_ ?_
        · refine s_iconst o dX6_saying_121 (v := (0 : Int32)) (by decide) (q := 122) rfl ?_
          exact s_sub [0, 1, 3, 4] rfl (t_X6_saying_122 o f hk59 x0 x1 v9_ x5 x3 (0 : Int32) h12_)
        · refine s_iconst o dX6_saying_117 (v := (1 : Int32)) (by decide) (q := 118) rfl ?_
          refine s_goto o (tgt := 122) dX6_saying_118 (by decide) ?_
          exact s_sub [0, 1, 3, 4] rfl (t_X6_saying_122 o f hk59 x0 x1 v9_ x5 x3 (1 : Int32) h12_)
theorem tl_X6_saying_59 {X : Cx} (o : Ok X RX6 cX6_saying 6 3 76 0 0 (some .int)) (f : Nat)  : ∀ (n : Nat) (x0 : Nat) (x1 : Int32) (x3 : Int32) (x4 : Int32) (x5 : Int32) (h : Hp), Sim X (z_Zi X 0 0) 0 0 59 [(0, rf (xG X) x0), (1, .int x1), (3, .int x3), (4, .int x4), (5, .int x5)] [] h (l_X6_saying_59 f n x0 x1 x3 x4 x5 h) := by
  intro n
  induction n with
  | zero => intro x0 x1 x3 x4 x5 h; exact s_none
  | succ n ih => intro x0 x1 x3 x4 x5 h; exact t_X6_saying_59 o f  ih x0 x1 x3 x4 x5 h
set_option maxRecDepth 20000 in
theorem t_X6_saying_50 {X : Cx} (o : Ok X RX6 cX6_saying 6 3 76 0 0 (some .int)) (f : Nat)  (y0 : Int32) (h : Hp) : Sim X (z_Zi X 0 0) 0 0 50 [] [.int y0] h (b_X6_saying_50 f y0 h) := by
  unfold b_X6_saying_50
  exact s_iret o dX6_saying_50
set_option maxRecDepth 20000 in
theorem t_X6_saying_0 {X : Cx} (o : Ok X RX6 cX6_saying 6 3 76 0 0 (some .int)) (f : Nat)  (x0 : Nat) (x1 : Int32) (x2 : Int32) (h : Hp) : Sim X (z_Zi X 0 0) 0 0 0 [(0, rf (xG X) x0), (1, .int x1), (2, .int x2)] [] h (f_X6_saying f x0 x1 x2 h) := by
  unfold f_X6_saying
  refine s_iload_n o 1 rfl dX6_saying_0 (q := 1) rfl ?_
  refine s_i2l o dX6_saying_1 (q := 2) rfl ?_
  refine s_lconst o dX6_saying_2 (v := (0 : Int64)) (by decide) (q := 3) rfl ?_
  refine s_aload_n o 0 rfl dX6_saying_3 (q := 4) rfl ?_
  refine s_gi o kf_X6_259 dX6_saying_4 (q := 7) rfl (fun v1_ => ?_)
  refine s_iconst o dX6_saying_7 (v := (1 : Int32)) (by decide) (q := 8) rfl ?_
  refine s_isub o dX6_saying_8 (q := 9) rfl ?_
  refine s_i2l o dX6_saying_9 (q := 10) rfl ?_
  refine s_bi (fun r0 hr0 => runS o cs_X6_114 (c_X6_in (xG X) f x1.toInt64 (0 : Int64) ((v1_ - (1 : Int32)).toInt64) h (xl X) r0 hr0) ⟨Nat.le_of_ble_eq_true rfl, Nat.le_of_ble_eq_true rfl⟩ rfl rfl (Nat.le_of_ble_eq_true rfl) dX6_saying_10 ⟨Nat.le_of_ble_eq_true rfl, Nat.le_of_ble_eq_true rfl⟩) (q := 13) rfl (cs' := 0) rfl (sl' := 0) rfl (fun v3_ h2_ => ?_)
  refine s_if_ne o (tgt := 20) dX6_saying_13 (by decide) (q := 16) rfl ?_ ?_
  · refine s_iload_n o 2 rfl dX6_saying_20 (q := 21) rfl ?_
    refine s_i2l o dX6_saying_21 (q := 22) rfl ?_
    refine s_lconst o dX6_saying_22 (v := (0 : Int64)) (by decide) (q := 23) rfl ?_
    refine s_lconst o dX6_saying_23 (v := (1 : Int64)) (by decide) (q := 24) rfl ?_
    refine s_bi (fun r0 hr0 => runS o cs_X6_114 (c_X6_in (xG X) f x2.toInt64 (0 : Int64) (1 : Int64) h2_ (xl X) r0 hr0) ⟨Nat.le_of_ble_eq_true rfl, Nat.le_of_ble_eq_true rfl⟩ rfl rfl (Nat.le_of_ble_eq_true rfl) dX6_saying_24 ⟨Nat.le_of_ble_eq_true rfl, Nat.le_of_ble_eq_true rfl⟩) (q := 27) rfl (cs' := 0) rfl (sl' := 0) rfl (fun v5_ h4_ => ?_)
    refine s_if_ne o (tgt := 33) dX6_saying_27 (by decide) (q := 30) rfl ?_ ?_
    · refine s_iload_n o 2 rfl dX6_saying_33 (q := 34) rfl ?_
      refine s_if_ne o (tgt := 51) dX6_saying_34 (by decide) (q := 37) rfl ?_ ?_
      · refine s_iconst o dX6_saying_51 (v := (0 : Int32)) (by decide) (q := 52) rfl ?_
        refine s_istore_n o [1, 2, 3, 0] (lv' := [(0, rf (xG X) x0), (1, .int x1), (2, .int x2), (3, .int (0 : Int32))]) rfl dX6_saying_52 (by decide) (q := 53) rfl ?_
        refine s_iconst o dX6_saying_53 (v := (0 : Int32)) (by decide) (q := 54) rfl ?_
        refine s_istore o [1, 2, 3, 4, 0] (lv' := [(0, rf (xG X) x0), (1, .int x1), (2, .int x2), (3, .int (0 : Int32)), (4, .int (0 : Int32))]) rfl dX6_saying_54 (by decide) (q := 56) rfl ?_
        refine s_iconst o dX6_saying_56 (v := (0 : Int32)) (by decide) (q := 57) rfl ?_
        refine s_istore o [1, 2, 3, 4, 5, 0] (lv' := [(0, rf (xG X) x0), (1, .int x1), (2, .int x2), (3, .int (0 : Int32)), (4, .int (0 : Int32)), (5, .int (0 : Int32))]) rfl dX6_saying_57 (by decide) (q := 59) rfl ?_
        exact s_sub [0, 1, 3, 4, 5] rfl (tl_X6_saying_59 o f f x0 x1 (0 : Int32) (0 : Int32) (0 : Int32) h4_)
      · refine s_aload_n o 0 rfl dX6_saying_37 (q := 38) rfl ?_
        refine s_iload_n o 1 rfl dX6_saying_38 (q := 39) rfl ?_
        refine s_on (fun hk6_ => ?_)
        refine s_bi (fun r0 hr0 => runV o hk6_ cv_X6_359 (c_X6_isTrue (xG X) f x0 x1 h4_ (xl X) r0 hr0) ⟨Nat.le_of_ble_eq_true rfl, Nat.le_of_ble_eq_true rfl⟩ rfl rfl (Nat.le_of_ble_eq_true rfl) dX6_saying_39 ⟨Nat.le_of_ble_eq_true rfl, Nat.le_of_ble_eq_true rfl⟩) (q := 42) rfl (cs' := 0) rfl (sl' := 0) rfl (fun v8_ h7_ => ?_)
        refine s_if_eq o (tgt := 49) dX6_saying_42 (by decide) (q := 45) rfl ?_ ?_
        · refine s_iconst o dX6_saying_49 (v := (0 : Int32)) (by decide) (q := 50) rfl ?_
          exact s_sub [] rfl (t_X6_saying_50 o f (0 : Int32) h7_)
        · refine s_iconst o dX6_saying_45 (v := (1 : Int32)) (by decide) (q := 46) rfl ?_
          refine s_goto o (tgt := 50) dX6_saying_46 (by decide) ?_
          exact s_sub [] rfl (t_X6_saying_50 o f (1 : Int32) h7_)
    · refine s_ldc o kc_X6_125 dX6_saying_30 (q := 32) rfl ?_
      exact s_iret o dX6_saying_32
  · refine s_ldcw o kc_X6_266 dX6_saying_16 (q := 19) rfl ?_
    exact s_iret o dX6_saying_19
theorem c_X6_saying (G : Gx) (f : Nat) (x0 : Nat) (x1 : Int32) (x2 : Int32) (h : Hp) : z_M z_qi G yX6_saying cX6_saying 6 (some .int) 3 76 0 0 [rf G x0, .int x1, .int x2] h (f_X6_saying f x0 x1 x2 h) :=
  z_met (by decide +kernel) (Nat.le_of_ble_eq_true rfl) (fun X hG hn o hnm => by
    subst hG
    show Sim X (z_Zi X 0 0) 0 0 0 [(0, rf (xG X) x0), (1, .int x1), (2, .int x2)] [] h _
    exact s_sub [0, 1, 2] rfl (t_X6_saying_0 o f x0 x1 x2 h))
/-! SixMapsModel.seed(I)I -/
def f_X6_seed (f : Nat)  (x0 : Nat) (x1 : Int32) (h : Hp) : Option (Int32 × Hp) :=
  if 0 ≤ x1 then
  ((q_gi h x0 6 17).bind fun v1_ =>
  (q_pi h x0 6 17 x1).bind fun h2_ =>
  some (v1_, h2_))
  else
  (some ((-1000002 : Int32), h))
set_option maxRecDepth 20000 in
theorem t_X6_seed_0 {X : Cx} (o : Ok X RX6 cX6_seed 3 0 0 0 0 (some .int)) (f : Nat)  (x0 : Nat) (x1 : Int32) (h : Hp) : Sim X (z_Zi X 0 0) 0 0 0 [(0, rf (xG X) x0), (1, .int x1)] [] h (f_X6_seed f x0 x1 h) := by
  unfold f_X6_seed
  refine s_iload_n o 1 rfl dX6_seed_0 (q := 1) rfl ?_
  refine s_if_ge o (tgt := 7) dX6_seed_1 (by decide) (q := 4) rfl ?_ ?_
  · refine s_aload_n o 0 rfl dX6_seed_7 (q := 8) rfl ?_
    refine s_gi o kf_X6_362 dX6_seed_8 (q := 11) rfl (fun v1_ => ?_)
    refine s_istore_n o [1, 2, 0] (lv' := [(0, rf (xG X) x0), (1, .int x1), (2, .int v1_)]) rfl dX6_seed_11 (by decide) (q := 12) rfl ?_
    refine s_aload_n o 0 rfl dX6_seed_12 (q := 13) rfl ?_
    refine s_iload_n o 1 rfl dX6_seed_13 (q := 14) rfl ?_
    refine s_pi o kf_X6_362 dX6_seed_14 (q := 17) rfl (fun h2_ => ?_)
    refine s_iload_n o 2 rfl dX6_seed_17 (q := 18) rfl ?_
    exact s_iret o dX6_seed_18
  · refine s_ldc o kc_X6_125 dX6_seed_4 (q := 6) rfl ?_
    exact s_iret o dX6_seed_6
theorem c_X6_seed (G : Gx) (f : Nat) (x0 : Nat) (x1 : Int32) (h : Hp) : z_M z_qi G yX6_seed cX6_seed 3 (some .int) 0 0 0 0 [rf G x0, .int x1] h (f_X6_seed f x0 x1 h) :=
  z_met (by decide +kernel) (Nat.le_of_ble_eq_true rfl) (fun X hG hn o hnm => by
    subst hG
    show Sim X (z_Zi X 0 0) 0 0 0 [(0, rf (xG X) x0), (1, .int x1)] [] h _
    exact s_sub [0, 1] rfl (t_X6_seed_0 o f x0 x1 h))
/-! SixMapsModel.show(III)I -/
def b_X6_show_16 (f : Nat)   (h : Hp) : Option (Int32 × Hp) :=
  some ((-1000001 : Int32), h)
def f_X6_show (f : Nat)  (x0 : Nat) (x1 : Int32) (x2 : Int32) (x3 : Int32) (h : Hp) : Option (Int32 × Hp) :=
  bi (f_X6_areTwo f x1 x2 h) fun v2_ h1_ =>
  if v2_ = 0 then
  (b_X6_show_16 f h1_)
  else
  (q_on h1_ x0 6 (
  bi (f_X6_isMark f x0 x3 h1_) fun v5_ h4_ =>
  if ¬ v5_ = 0 then
  ((q_gr h4_ x0 6 11).bind fun a6_ =>
  (q_ai h4_ a6_ 9 (((6 : Int32) * x2) + x1)).bind fun v7_ =>
  bi (f_X6_has f v7_ x3 h4_) fun v9_ h8_ =>
  if v9_ = 0 then
  ((q_gr h8_ x0 6 11).bind fun a10_ =>
  (q_ai h8_ a10_ 9 (((6 : Int32) * x2) + x1)).bind fun v11_ =>
  (q_as h8_ a10_ 9 (((6 : Int32) * x2) + x1) (v11_ ||| ((1 : Int32) <<< (x3 &&& 31)))).bind fun h12_ =>
  (q_gr h12_ x0 6 11).bind fun a13_ =>
  (q_ai h12_ a13_ 9 (((6 : Int32) * x2) + x1)).bind fun v14_ =>
  bi (f_X6_bits f v14_ h12_) fun v16_ h15_ =>
  some (v16_, h15_))
  else
  (some ((-1000003 : Int32), h8_)))
  else
  (b_X6_show_16 f h4_)))
set_option maxRecDepth 20000 in
theorem t_X6_show_16 {X : Cx} (o : Ok X RX6 cX6_show 4 3 66 0 0 (some .int)) (f : Nat)   (h : Hp) : Sim X (z_Zi X 0 0) 0 0 16 [] [] h (b_X6_show_16 f h) := by
  unfold b_X6_show_16
  refine s_ldcw o kc_X6_266 dX6_show_16 (q := 19) rfl ?_
  exact s_iret o dX6_show_19
set_option maxRecDepth 20000 in
theorem t_X6_show_0 {X : Cx} (o : Ok X RX6 cX6_show 4 3 66 0 0 (some .int)) (f : Nat)  (x0 : Nat) (x1 : Int32) (x2 : Int32) (x3 : Int32) (h : Hp) : Sim X (z_Zi X 0 0) 0 0 0 [(0, rf (xG X) x0), (1, .int x1), (2, .int x2), (3, .int x3)] [] h (f_X6_show f x0 x1 x2 x3 h) := by
  unfold f_X6_show
  refine s_iload_n o 1 rfl dX6_show_0 (q := 1) rfl ?_
  refine s_iload_n o 2 rfl dX6_show_1 (q := 2) rfl ?_
  refine s_bi (fun r0 hr0 => runS o cs_X6_321 (c_X6_areTwo (xG X) f x1 x2 h (xl X) r0 hr0) ⟨Nat.le_of_ble_eq_true rfl, Nat.le_of_ble_eq_true rfl⟩ rfl rfl (Nat.le_of_ble_eq_true rfl) dX6_show_2 ⟨Nat.le_of_ble_eq_true rfl, Nat.le_of_ble_eq_true rfl⟩) (q := 5) rfl (cs' := 0) rfl (sl' := 0) rfl (fun v2_ h1_ => ?_)
  refine s_if_eq o (tgt := 16) dX6_show_5 (by decide) (q := 8) rfl ?_ ?_
  · exact s_sub [] rfl (t_X6_show_16 o f h1_)
  · refine s_aload_n o 0 rfl dX6_show_8 (q := 9) rfl ?_
    refine s_iload_n o 3 rfl dX6_show_9 (q := 10) rfl ?_
    refine s_on (fun hk3_ => ?_)
    refine s_bi (fun r0 hr0 => runV o hk3_ cv_X6_262 (c_X6_isMark (xG X) f x0 x3 h1_ (xl X) r0 hr0) ⟨Nat.le_of_ble_eq_true rfl, Nat.le_of_ble_eq_true rfl⟩ rfl rfl (Nat.le_of_ble_eq_true rfl) dX6_show_10 ⟨Nat.le_of_ble_eq_true rfl, Nat.le_of_ble_eq_true rfl⟩) (q := 13) rfl (cs' := 0) rfl (sl' := 0) rfl (fun v5_ h4_ => ?_)
    refine s_if_ne o (tgt := 20) dX6_show_13 (by decide) (q := 16) rfl ?_ ?_
    · refine s_aload_n o 0 rfl dX6_show_20 (q := 21) rfl ?_
      refine s_gr o kf_X6_32 dX6_show_21 (q := 24) rfl (fun a6_ => ?_)
      refine s_bipush o dX6_show_24 (v := (6 : Int32)) (by decide) (q := 26) rfl ?_
      refine s_iload_n o 2 rfl dX6_show_26 (q := 27) rfl ?_
      refine s_imul o dX6_show_27 (q := 28) rfl ?_
      refine s_iload_n o 1 rfl dX6_show_28 (q := 29) rfl ?_
      refine s_iadd o dX6_show_29 (q := 30) rfl ?_
      refine s_iald o dX6_show_30 (q := 31) rfl (fun v7_ => ?_)
      refine s_iload_n o 3 rfl dX6_show_31 (q := 32) rfl ?_
      refine s_bi (fun r0 hr0 => runS o cs_X6_182 (c_X6_has (xG X) f v7_ x3 h4_ (xl X) r0 hr0) ⟨Nat.le_of_ble_eq_true rfl, Nat.le_of_ble_eq_true rfl⟩ rfl rfl (Nat.le_of_ble_eq_true rfl) dX6_show_32 ⟨Nat.le_of_ble_eq_true rfl, Nat.le_of_ble_eq_true rfl⟩) (q := 35) rfl (cs' := 0) rfl (sl' := 0) rfl (fun v9_ h8_ => ?_)
      refine s_if_eq o (tgt := 42) dX6_show_35 (by decide) (q := 38) rfl ?_ ?_
      · refine s_aload_n o 0 rfl dX6_show_42 (q := 43) rfl ?_
        refine s_gr o kf_X6_32 dX6_show_43 (q := 46) rfl (fun a10_ => ?_)
        refine s_bipush o dX6_show_46 (v := (6 : Int32)) (by decide) (q := 48) rfl ?_
        refine s_iload_n o 2 rfl dX6_show_48 (q := 49) rfl ?_
        refine s_imul o dX6_show_49 (q := 50) rfl ?_
        refine s_iload_n o 1 rfl dX6_show_50 (q := 51) rfl ?_
        refine s_iadd o dX6_show_51 (q := 52) rfl ?_
        refine s_dup2 o rfl rfl dX6_show_52 (q := 53) rfl ?_
        refine s_iald o dX6_show_53 (q := 54) rfl (fun v11_ => ?_)
        refine s_iconst o dX6_show_54 (v := (1 : Int32)) (by decide) (q := 55) rfl ?_
        refine s_iload_n o 3 rfl dX6_show_55 (q := 56) rfl ?_
        refine s_ishl o dX6_show_56 (q := 57) rfl ?_
        refine s_ior o dX6_show_57 (q := 58) rfl ?_
        refine s_iast o dX6_show_58 (q := 59) rfl (fun h12_ => ?_)
        refine s_aload_n o 0 rfl dX6_show_59 (q := 60) rfl ?_
        refine s_gr o kf_X6_32 dX6_show_60 (q := 63) rfl (fun a13_ => ?_)
        refine s_bipush o dX6_show_63 (v := (6 : Int32)) (by decide) (q := 65) rfl ?_
        refine s_iload_n o 2 rfl dX6_show_65 (q := 66) rfl ?_
        refine s_imul o dX6_show_66 (q := 67) rfl ?_
        refine s_iload_n o 1 rfl dX6_show_67 (q := 68) rfl ?_
        refine s_iadd o dX6_show_68 (q := 69) rfl ?_
        refine s_iald o dX6_show_69 (q := 70) rfl (fun v14_ => ?_)
        refine s_bi (fun r0 hr0 => runS o cs_X6_306 (c_X6_bits (xG X) f v14_ h12_ (xl X) r0 hr0) ⟨Nat.le_of_ble_eq_true rfl, Nat.le_of_ble_eq_true rfl⟩ rfl rfl (Nat.le_of_ble_eq_true rfl) dX6_show_70 ⟨Nat.le_of_ble_eq_true rfl, Nat.le_of_ble_eq_true rfl⟩) (q := 73) rfl (cs' := 0) rfl (sl' := 0) rfl (fun v16_ h15_ => ?_)
        exact s_iret o dX6_show_73
      · refine s_ldcw o kc_X6_317 dX6_show_38 (q := 41) rfl ?_
        exact s_iret o dX6_show_41
    · exact s_sub [] rfl (t_X6_show_16 o f h4_)
theorem c_X6_show (G : Gx) (f : Nat) (x0 : Nat) (x1 : Int32) (x2 : Int32) (x3 : Int32) (h : Hp) : z_M z_qi G yX6_show cX6_show 4 (some .int) 3 66 0 0 [rf G x0, .int x1, .int x2, .int x3] h (f_X6_show f x0 x1 x2 x3 h) :=
  z_met (by decide +kernel) (Nat.le_of_ble_eq_true rfl) (fun X hG hn o hnm => by
    subst hG
    show Sim X (z_Zi X 0 0) 0 0 0 [(0, rf (xG X) x0), (1, .int x1), (2, .int x2), (3, .int x3)] [] h _
    exact s_sub [0, 1, 2, 3] rfl (t_X6_show_0 o f x0 x1 x2 x3 h))
/-! SixMapsModel.spades(I)I -/
def b_X6_spades_66 (f : Nat)  (y0 : Int32) (h : Hp) : Option (Int32 × Hp) :=
  some (y0, h)
def b_X6_spades_58 (f : Nat)   (h : Hp) : Option (Int32 × Hp) :=
  b_X6_spades_66 f (-1 : Int32) h
def b_X6_spades_20 (f : Nat) (k20 : Nat → Int32 → Int32 → Hp → Option (Int32 × Hp)) (x0 : Nat) (x2 : Int32) (x3 : Int32) (h : Hp) : Option (Int32 × Hp) :=
  (q_gi h x0 6 44).bind fun v1_ =>
  if v1_ ≤ x3 then
  ((q_gi h x0 6 45).bind fun v2_ =>
  if v2_ = 0 then
  (b_X6_spades_58 f h)
  else
  ((q_gi h x0 6 45).bind fun v3_ =>
  if v3_ ≤ x2 then
  ((q_gi h x0 6 44).bind fun v4_ =>
  b_X6_spades_66 f v4_ h)
  else
  (b_X6_spades_58 f h)))
  else
  ((q_gr h x0 6 48).bind fun a5_ =>
  (q_ai h a5_ 9 x3).bind fun v6_ =>
  lt (x2 + v6_) fun v7_ =>
  lt (x3 + (1 : Int32)) fun v8_ =>
  k20 x0 v7_ v8_ h)
def l_X6_spades_20 (f : Nat)  : Nat → Nat → Int32 → Int32 → Hp → Option (Int32 × Hp)
  | 0, _, _, _, _ => none
  | n + 1, x0, x2, x3, h => b_X6_spades_20 f  (l_X6_spades_20 f  n) x0 x2 x3 h
def f_X6_spades (f : Nat)  (x0 : Nat) (x1 : Int32) (h : Hp) : Option (Int32 × Hp) :=
  bi (f_X6_isBand f x1 h) fun v2_ h1_ =>
  if ¬ v2_ = 0 then
  (q_on h1_ x0 6 (
  (f_X6_findPlaces f x0 x1 h1_).bind fun h4_ =>
  l_X6_spades_20 f f x0 (0 : Int32) (0 : Int32) h4_))
  else
  (some ((-1000001 : Int32), h1_))
set_option maxRecDepth 20000 in
theorem t_X6_spades_66 {X : Cx} (o : Ok X RX6 cX6_spades 4 4 98 0 0 (some .int)) (f : Nat)  (y0 : Int32) (h : Hp) : Sim X (z_Zi X 0 0) 0 0 66 [] [.int y0] h (b_X6_spades_66 f y0 h) := by
  unfold b_X6_spades_66
  exact s_iret o dX6_spades_66
set_option maxRecDepth 20000 in
theorem t_X6_spades_58 {X : Cx} (o : Ok X RX6 cX6_spades 4 4 98 0 0 (some .int)) (f : Nat)   (h : Hp) : Sim X (z_Zi X 0 0) 0 0 58 [] [] h (b_X6_spades_58 f h) := by
  unfold b_X6_spades_58
  refine s_iconst o dX6_spades_58 (v := (-1 : Int32)) (by decide) (q := 59) rfl ?_
  refine s_goto o (tgt := 66) dX6_spades_59 (by decide) ?_
  exact s_sub [] rfl (t_X6_spades_66 o f (-1 : Int32) h)
set_option maxRecDepth 20000 in
theorem t_X6_spades_20 {X : Cx} (o : Ok X RX6 cX6_spades 4 4 98 0 0 (some .int)) (f : Nat) {k20 : Nat → Int32 → Int32 → Hp → Option (Int32 × Hp)} (hk20 : ∀ (x0 : Nat) (x2 : Int32) (x3 : Int32) (h : Hp), Sim X (z_Zi X 0 0) 0 0 20 [(0, rf (xG X) x0), (2, .int x2), (3, .int x3)] [] h (k20 x0 x2 x3 h)) (x0 : Nat) (x2 : Int32) (x3 : Int32) (h : Hp) : Sim X (z_Zi X 0 0) 0 0 20 [(0, rf (xG X) x0), (2, .int x2), (3, .int x3)] [] h (b_X6_spades_20 f k20 x0 x2 x3 h) := by
  unfold b_X6_spades_20
  refine s_iload_n o 2 rfl dX6_spades_20 (q := 21) rfl ?_
  refine s_aload_n o 0 rfl dX6_spades_21 (q := 22) rfl ?_
  refine s_gi o kf_X6_335 dX6_spades_22 (q := 25) rfl (fun v1_ => ?_)
  refine s_ic_ge o (tgt := 43) dX6_spades_25 (by decide) (q := 28) rfl ?_ ?_
  · refine s_aload_n o 0 rfl dX6_spades_43 (q := 44) rfl ?_
    refine s_gi o kf_X6_338 dX6_spades_44 (q := 47) rfl (fun v2_ => ?_)
    refine s_if_eq o (tgt := 58) dX6_spades_47 (by decide) (q := 50) rfl ?_ ?_
    · exact s_sub [] rfl (t_X6_spades_58 o f h)
    · refine s_iload_n o 1 rfl dX6_spades_50 (q := 51) rfl ?_
      refine s_aload_n o 0 rfl dX6_spades_51 (q := 52) rfl ?_
      refine s_gi o kf_X6_338 dX6_spades_52 (q := 55) rfl (fun v3_ => ?_)
      refine s_ic_ge o (tgt := 62) dX6_spades_55 (by decide) (q := 58) rfl ?_ ?_
      · refine s_aload_n o 0 rfl dX6_spades_62 (q := 63) rfl ?_
        refine s_gi o kf_X6_335 dX6_spades_63 (q := 66) rfl (fun v4_ => ?_)
        exact s_sub [] rfl (t_X6_spades_66 o f v4_ h)
      · exact s_sub [] rfl (t_X6_spades_58 o f h)
  · refine s_iload_n o 1 rfl dX6_spades_28 (q := 29) rfl ?_
    refine s_aload_n o 0 rfl dX6_spades_29 (q := 30) rfl ?_
    refine s_gr o kf_X6_87 dX6_spades_30 (q := 33) rfl (fun a5_ => ?_)
    refine s_iload_n o 2 rfl dX6_spades_33 (q := 34) rfl ?_
    refine s_iald o dX6_spades_34 (q := 35) rfl (fun v6_ => ?_)
    refine s_iadd o dX6_spades_35 (q := 36) rfl ?_
    refine s_let (fun v7_ => ?_)
    refine s_istore_n o [1, 0, 2] (lv' := [(0, rf (xG X) x0), (2, .int v7_), (3, .int x3)]) rfl dX6_spades_36 (by decide) (q := 37) rfl ?_
    refine s_iinc o 2 rfl (v := (1 : Int32)) (by decide) [1, 2, 0] (lv' := fun v8_ => [(0, rf (xG X) x0), (2, .int v7_), (3, .int v8_)]) (fun _ => rfl) dX6_spades_37 (by decide) (q := 40) rfl (fun v8_ => ?_)
    refine s_goto o (tgt := 20) dX6_spades_40 (by decide) ?_
    exact s_sub [0, 1, 2] rfl (hk20 x0 v7_ v8_ h)
theorem tl_X6_spades_20 {X : Cx} (o : Ok X RX6 cX6_spades 4 4 98 0 0 (some .int)) (f : Nat)  : ∀ (n : Nat) (x0 : Nat) (x2 : Int32) (x3 : Int32) (h : Hp), Sim X (z_Zi X 0 0) 0 0 20 [(0, rf (xG X) x0), (2, .int x2), (3, .int x3)] [] h (l_X6_spades_20 f n x0 x2 x3 h) := by
  intro n
  induction n with
  | zero => intro x0 x2 x3 h; exact s_none
  | succ n ih => intro x0 x2 x3 h; exact t_X6_spades_20 o f  ih x0 x2 x3 h
set_option maxRecDepth 20000 in
theorem t_X6_spades_0 {X : Cx} (o : Ok X RX6 cX6_spades 4 4 98 0 0 (some .int)) (f : Nat)  (x0 : Nat) (x1 : Int32) (h : Hp) : Sim X (z_Zi X 0 0) 0 0 0 [(0, rf (xG X) x0), (1, .int x1)] [] h (f_X6_spades f x0 x1 h) := by
  unfold f_X6_spades
  refine s_iload_n o 1 rfl dX6_spades_0 (q := 1) rfl ?_
  refine s_bi (fun r0 hr0 => runS o cs_X6_267 (c_X6_isBand (xG X) f x1 h (xl X) r0 hr0) ⟨Nat.le_of_ble_eq_true rfl, Nat.le_of_ble_eq_true rfl⟩ rfl rfl (Nat.le_of_ble_eq_true rfl) dX6_spades_1 ⟨Nat.le_of_ble_eq_true rfl, Nat.le_of_ble_eq_true rfl⟩) (q := 4) rfl (cs' := 0) rfl (sl' := 0) rfl (fun v2_ h1_ => ?_)
  refine s_if_ne o (tgt := 11) dX6_spades_4 (by decide) (q := 7) rfl ?_ ?_
  · refine s_aload_n o 0 rfl dX6_spades_11 (q := 12) rfl ?_
    refine s_iload_n o 1 rfl dX6_spades_12 (q := 13) rfl ?_
    refine s_on (fun hk3_ => ?_)
    refine s_callv (fun r0 hr0 => runV o hk3_ cv_X6_344 (c_X6_findPlaces (xG X) f x0 x1 h1_ (xl X) r0 hr0) ⟨Nat.le_of_ble_eq_true rfl, Nat.le_of_ble_eq_true rfl⟩ rfl rfl (Nat.le_of_ble_eq_true rfl) dX6_spades_13 ⟨Nat.le_of_ble_eq_true rfl, Nat.le_of_ble_eq_true rfl⟩) (q := 16) rfl (cs' := 0) rfl (sl' := 0) rfl (fun h4_ => ?_)
    refine s_iconst o dX6_spades_16 (v := (0 : Int32)) (by decide) (q := 17) rfl ?_
    refine s_istore_n o [1, 2, 0] (lv' := [(0, rf (xG X) x0), (1, .int x1), (2, .int (0 : Int32))]) rfl dX6_spades_17 (by decide) (q := 18) rfl ?_
    refine s_iconst o dX6_spades_18 (v := (0 : Int32)) (by decide) (q := 19) rfl ?_
    refine s_istore_n o [1, 2, 3, 0] (lv' := [(0, rf (xG X) x0), (1, .int x1), (2, .int (0 : Int32)), (3, .int (0 : Int32))]) rfl dX6_spades_19 (by decide) (q := 20) rfl ?_
    exact s_sub [0, 2, 3] rfl (tl_X6_spades_20 o f f x0 (0 : Int32) (0 : Int32) h4_)
  · refine s_ldcw o kc_X6_266 dX6_spades_7 (q := 10) rfl ?_
    exact s_iret o dX6_spades_10
theorem c_X6_spades (G : Gx) (f : Nat) (x0 : Nat) (x1 : Int32) (h : Hp) : z_M z_qi G yX6_spades cX6_spades 4 (some .int) 4 98 0 0 [rf G x0, .int x1] h (f_X6_spades f x0 x1 h) :=
  z_met (by decide +kernel) (Nat.le_of_ble_eq_true rfl) (fun X hG hn o hnm => by
    subst hG
    show Sim X (z_Zi X 0 0) 0 0 0 [(0, rf (xG X) x0), (1, .int x1)] [] h _
    exact s_sub [0, 1] rfl (t_X6_spades_0 o f x0 x1 h))
/-! SixMapsModel.sure(II)I -/
def b_X6_sure_110 (f : Nat)  (y0 : Int32) (h : Hp) : Option (Int32 × Hp) :=
  some (y0, h)
def b_X6_sure_80 (f : Nat) (k36 : Nat → Int32 → Int32 → Int32 → Int32 → Int32 → Int32 → Hp → Option (Int32 × Hp)) (x0 : Nat) (x1 : Int32) (x2 : Int32) (x3 : Int32) (x4 : Int32) (x5 : Int32) (x6 : Int32) (h : Hp) : Option (Int32 × Hp) :=
  lt (x6 + (1 : Int32)) fun v1_ =>
  k36 x0 x1 x2 x3 x4 x5 v1_ h
def b_X6_sure_36 (f : Nat) (k36 : Nat → Int32 → Int32 → Int32 → Int32 → Int32 → Int32 → Hp → Option (Int32 × Hp)) (x0 : Nat) (x1 : Int32) (x2 : Int32) (x3 : Int32) (x4 : Int32) (x5 : Int32) (x6 : Int32) (h : Hp) : Option (Int32 × Hp) :=
  if (64 : Int32) ≤ x6 then
  (if ¬ x5 = 0 then
  (if ¬ x2 = 0 then
  (b_X6_sure_110 f ((63 : Int32) &&& (x4 ^^^ (-1 : Int32))) h)
  else
  (b_X6_sure_110 f x3 h))
  else
  (b_X6_sure_110 f (-1 : Int32) h))
  else
  (bi (f_X6_bits f x6 h) fun v2_ h1_ =>
  (q_gi h1_ x0 6 5).bind fun v3_ =>
  if ¬ v2_ = v3_ then
  (b_X6_sure_80 f k36 x0 x1 x2 x3 x4 x5 x6 h1_)
  else
  (q_on h1_ x0 6 (
  bi (f_X6_mayLie f x0 x1 x6 h1_) fun v6_ h5_ =>
  if v6_ = 0 then
  (b_X6_sure_80 f k36 x0 x1 x2 x3 x4 x5 x6 h5_)
  else
  (lt (x5 + (1 : Int32)) fun v7_ =>
  lt (x3 &&& x6) fun v8_ =>
  lt (x4 ||| x6) fun v9_ =>
  b_X6_sure_80 f k36 x0 x1 x2 v8_ v9_ v7_ x6 h5_))))
def l_X6_sure_36 (f : Nat)  : Nat → Nat → Int32 → Int32 → Int32 → Int32 → Int32 → Int32 → Hp → Option (Int32 × Hp)
  | 0, _, _, _, _, _, _, _, _ => none
  | n + 1, x0, x1, x2, x3, x4, x5, x6, h => b_X6_sure_36 f  (l_X6_sure_36 f  n) x0 x1 x2 x3 x4 x5 x6 h
def f_X6_sure (f : Nat)  (x0 : Nat) (x1 : Int32) (x2 : Int32) (h : Hp) : Option (Int32 × Hp) :=
  bi (f_X6_isBand f x1 h) fun v2_ h1_ =>
  if ¬ v2_ = 0 then
  (bi (f_X6_in f x2.toInt64 (0 : Int64) (1 : Int64) h1_) fun v4_ h3_ =>
  if ¬ v4_ = 0 then
  (l_X6_sure_36 f f x0 x1 x2 (63 : Int32) (0 : Int32) (0 : Int32) (0 : Int32) h3_)
  else
  (some ((-1000002 : Int32), h3_)))
  else
  (some ((-1000001 : Int32), h1_))
set_option maxRecDepth 20000 in
theorem t_X6_sure_110 {X : Cx} (o : Ok X RX6 cX6_sure 7 3 76 0 0 (some .int)) (f : Nat)  (y0 : Int32) (h : Hp) : Sim X (z_Zi X 0 0) 0 0 110 [] [.int y0] h (b_X6_sure_110 f y0 h) := by
  unfold b_X6_sure_110
  exact s_iret o dX6_sure_110
set_option maxRecDepth 20000 in
theorem t_X6_sure_80 {X : Cx} (o : Ok X RX6 cX6_sure 7 3 76 0 0 (some .int)) (f : Nat) {k36 : Nat → Int32 → Int32 → Int32 → Int32 → Int32 → Int32 → Hp → Option (Int32 × Hp)} (hk36 : ∀ (x0 : Nat) (x1 : Int32) (x2 : Int32) (x3 : Int32) (x4 : Int32) (x5 : Int32) (x6 : Int32) (h : Hp), Sim X (z_Zi X 0 0) 0 0 36 [(0, rf (xG X) x0), (1, .int x1), (2, .int x2), (3, .int x3), (4, .int x4), (5, .int x5), (6, .int x6)] [] h (k36 x0 x1 x2 x3 x4 x5 x6 h)) (x0 : Nat) (x1 : Int32) (x2 : Int32) (x3 : Int32) (x4 : Int32) (x5 : Int32) (x6 : Int32) (h : Hp) : Sim X (z_Zi X 0 0) 0 0 80 [(0, rf (xG X) x0), (1, .int x1), (2, .int x2), (3, .int x3), (4, .int x4), (5, .int x5), (6, .int x6)] [] h (b_X6_sure_80 f k36 x0 x1 x2 x3 x4 x5 x6 h) := by
  unfold b_X6_sure_80
  refine s_iinc o 6 rfl (v := (1 : Int32)) (by decide) [1, 2, 3, 4, 5, 6, 0] (lv' := fun v1_ => [(0, rf (xG X) x0), (1, .int x1), (2, .int x2), (3, .int x3), (4, .int x4), (5, .int x5), (6, .int v1_)]) (fun _ => rfl) dX6_sure_80 (by decide) (q := 83) rfl (fun v1_ => ?_)
  refine s_goto o (tgt := 36) dX6_sure_83 (by decide) ?_
  exact s_sub [0, 1, 2, 3, 4, 5, 6] rfl (hk36 x0 x1 x2 x3 x4 x5 v1_ h)
set_option maxRecDepth 20000 in
theorem t_X6_sure_36 {X : Cx} (o : Ok X RX6 cX6_sure 7 3 76 0 0 (some .int)) (f : Nat) {k36 : Nat → Int32 → Int32 → Int32 → Int32 → Int32 → Int32 → Hp → Option (Int32 × Hp)} (hk36 : ∀ (x0 : Nat) (x1 : Int32) (x2 : Int32) (x3 : Int32) (x4 : Int32) (x5 : Int32) (x6 : Int32) (h : Hp), Sim X (z_Zi X 0 0) 0 0 36 [(0, rf (xG X) x0), (1, .int x1), (2, .int x2), (3, .int x3), (4, .int x4), (5, .int x5), (6, .int x6)] [] h (k36 x0 x1 x2 x3 x4 x5 x6 h)) (x0 : Nat) (x1 : Int32) (x2 : Int32) (x3 : Int32) (x4 : Int32) (x5 : Int32) (x6 : Int32) (h : Hp) : Sim X (z_Zi X 0 0) 0 0 36 [(0, rf (xG X) x0), (1, .int x1), (2, .int x2), (3, .int x3), (4, .int x4), (5, .int x5), (6, .int x6)] [] h (b_X6_sure_36 f k36 x0 x1 x2 x3 x4 x5 x6 h) := by
  unfold b_X6_sure_36
  refine s_iload o 6 rfl dX6_sure_36 (q := 38) rfl ?_
  refine s_bipush o dX6_sure_38 (v := (64 : Int32)) (by decide) (q := 40) rfl ?_
  refine s_ic_ge o (tgt := 86) dX6_sure_40 (by decide) (q := 43) rfl ?_ ?_
  · refine s_iload o 5 rfl dX6_sure_86 (q := 88) rfl ?_
    refine s_if_ne o (tgt := 95) dX6_sure_88 (by decide) (q := 91) rfl ?_ ?_
    · refine s_iload_n o 2 rfl dX6_sure_95 (q := 96) rfl ?_
      refine s_if_ne o (tgt := 103) dX6_sure_96 (by decide) (q := 99) rfl ?_ ?_
      · refine s_bipush o dX6_sure_103 (v := (63 : Int32)) (by decide) (q := 105) rfl ?_
        refine s_iload o 4 rfl dX6_sure_105 (q := 107) rfl ?_
        refine s_iconst o dX6_sure_107 (v := (-1 : Int32)) (by decide) (q := 108) rfl ?_
        refine s_ixor o dX6_sure_108 (q := 109) rfl ?_
        refine s_iand o dX6_sure_109 (q := 110) rfl ?_
        exact s_sub [] rfl (t_X6_sure_110 o f ((63 : Int32) &&& (x4 ^^^ (-1 : Int32))) h)
      · refine s_iload_n o 3 rfl dX6_sure_99 (q := 100) rfl ?_
        refine s_goto o (tgt := 110) dX6_sure_100 (by decide) ?_
        exact s_sub [] rfl (t_X6_sure_110 o f x3 h)
    · refine s_iconst o dX6_sure_91 (v := (-1 : Int32)) (by decide) (q := 92) rfl ?_
      refine s_goto o (tgt := 110) dX6_sure_92 (by decide) ?_
      exact s_sub [] rfl (t_X6_sure_110 o f (-1 : Int32) h)
  · refine s_iload o 6 rfl dX6_sure_43 (q := 45) rfl ?_
    refine s_bi (fun r0 hr0 => runS o cs_X6_306 (c_X6_bits (xG X) f x6 h (xl X) r0 hr0) ⟨Nat.le_of_ble_eq_true rfl, Nat.le_of_ble_eq_true rfl⟩ rfl rfl (Nat.le_of_ble_eq_true rfl) dX6_sure_45 ⟨Nat.le_of_ble_eq_true rfl, Nat.le_of_ble_eq_true rfl⟩) (q := 48) rfl (cs' := 0) rfl (sl' := 0) rfl (fun v2_ h1_ => ?_)
    refine s_aload_n o 0 rfl dX6_sure_48 (q := 49) rfl ?_
    refine s_gi o kf_X6_250 dX6_sure_49 (q := 52) rfl (fun v3_ => ?_)
    refine s_ic_ne o (tgt := 80) dX6_sure_52 (by decide) (q := 55) rfl ?_ ?_
    · exact s_sub [0, 1, 2, 3, 4, 5, 6] rfl (t_X6_sure_80 o f hk36 x0 x1 x2 x3 x4 x5 x6 h1_)
    · refine s_aload_n o 0 rfl dX6_sure_55 (q := 56) rfl ?_
      refine s_iload_n o 1 rfl dX6_sure_56 (q := 57) rfl ?_
      refine s_iload o 6 rfl dX6_sure_57 (q := 59) rfl ?_
      refine s_on (fun hk4_ => ?_)
      refine s_bi (fun r0 hr0 => runV o hk4_ cv_X6_309 (c_X6_mayLie (xG X) f x0 x1 x6 h1_ (xl X) r0 hr0) ⟨Nat.le_of_ble_eq_true rfl, Nat.le_of_ble_eq_true rfl⟩ rfl rfl (Nat.le_of_ble_eq_true rfl) dX6_sure_59 ⟨Nat.le_of_ble_eq_true rfl, Nat.le_of_ble_eq_true rfl⟩) (q := 62) rfl (cs' := 0) rfl (sl' := 0) rfl (fun v6_ h5_ => ?_)
      refine s_if_eq o (tgt := 80) dX6_sure_62 (by decide) (q := 65) rfl ?_ ?_
      · exact s_sub [0, 1, 2, 3, 4, 5, 6] rfl (t_X6_sure_80 o f hk36 x0 x1 x2 x3 x4 x5 x6 h5_)
      · refine s_iinc o 5 rfl (v := (1 : Int32)) (by decide) [1, 2, 3, 4, 5, 0, 6] (lv' := fun v7_ => [(0, rf (xG X) x0), (1, .int x1), (2, .int x2), (3, .int x3), (4, .int x4), (5, .int v7_), (6, .int x6)]) (fun _ => rfl) dX6_sure_65 (by decide) (q := 68) rfl (fun v7_ => ?_)
        refine s_iload_n o 3 rfl dX6_sure_68 (q := 69) rfl ?_
        refine s_iload o 6 rfl dX6_sure_69 (q := 71) rfl ?_
        refine s_iand o dX6_sure_71 (q := 72) rfl ?_
        refine s_let (fun v8_ => ?_)
        refine s_istore_n o [1, 2, 3, 0, 4, 5, 6] (lv' := [(0, rf (xG X) x0), (1, .int x1), (2, .int x2), (3, .int v8_), (4, .int x4), (5, .int v7_), (6, .int x6)]) rfl dX6_sure_72 (by decide) (q := 73) rfl ?_
        refine s_iload o 4 rfl dX6_sure_73 (q := 75) rfl ?_
        refine s_iload o 6 rfl dX6_sure_75 (q := 77) rfl ?_
        refine s_ior o dX6_sure_77 (q := 78) rfl ?_
        refine s_let (fun v9_ => ?_)
        refine s_istore o [1, 2, 3, 4, 0, 5, 6] (lv' := [(0, rf (xG X) x0), (1, .int x1), (2, .int x2), (3, .int v8_), (4, .int v9_), (5, .int v7_), (6, .int x6)]) rfl dX6_sure_78 (by decide) (q := 80) rfl ?_
        exact s_sub [0, 1, 2, 3, 4, 5, 6] rfl (t_X6_sure_80 o f hk36 x0 x1 x2 v8_ v9_ v7_ x6 h5_)
theorem tl_X6_sure_36 {X : Cx} (o : Ok X RX6 cX6_sure 7 3 76 0 0 (some .int)) (f : Nat)  : ∀ (n : Nat) (x0 : Nat) (x1 : Int32) (x2 : Int32) (x3 : Int32) (x4 : Int32) (x5 : Int32) (x6 : Int32) (h : Hp), Sim X (z_Zi X 0 0) 0 0 36 [(0, rf (xG X) x0), (1, .int x1), (2, .int x2), (3, .int x3), (4, .int x4), (5, .int x5), (6, .int x6)] [] h (l_X6_sure_36 f n x0 x1 x2 x3 x4 x5 x6 h) := by
  intro n
  induction n with
  | zero => intro x0 x1 x2 x3 x4 x5 x6 h; exact s_none
  | succ n ih => intro x0 x1 x2 x3 x4 x5 x6 h; exact t_X6_sure_36 o f  ih x0 x1 x2 x3 x4 x5 x6 h
set_option maxRecDepth 20000 in
theorem t_X6_sure_0 {X : Cx} (o : Ok X RX6 cX6_sure 7 3 76 0 0 (some .int)) (f : Nat)  (x0 : Nat) (x1 : Int32) (x2 : Int32) (h : Hp) : Sim X (z_Zi X 0 0) 0 0 0 [(0, rf (xG X) x0), (1, .int x1), (2, .int x2)] [] h (f_X6_sure f x0 x1 x2 h) := by
  unfold f_X6_sure
  refine s_iload_n o 1 rfl dX6_sure_0 (q := 1) rfl ?_
  refine s_bi (fun r0 hr0 => runS o cs_X6_267 (c_X6_isBand (xG X) f x1 h (xl X) r0 hr0) ⟨Nat.le_of_ble_eq_true rfl, Nat.le_of_ble_eq_true rfl⟩ rfl rfl (Nat.le_of_ble_eq_true rfl) dX6_sure_1 ⟨Nat.le_of_ble_eq_true rfl, Nat.le_of_ble_eq_true rfl⟩) (q := 4) rfl (cs' := 0) rfl (sl' := 0) rfl (fun v2_ h1_ => ?_)
  refine s_if_ne o (tgt := 11) dX6_sure_4 (by decide) (q := 7) rfl ?_ ?_
  · refine s_iload_n o 2 rfl dX6_sure_11 (q := 12) rfl ?_
    refine s_i2l o dX6_sure_12 (q := 13) rfl ?_
    refine s_lconst o dX6_sure_13 (v := (0 : Int64)) (by decide) (q := 14) rfl ?_
    refine s_lconst o dX6_sure_14 (v := (1 : Int64)) (by decide) (q := 15) rfl ?_
    refine s_bi (fun r0 hr0 => runS o cs_X6_114 (c_X6_in (xG X) f x2.toInt64 (0 : Int64) (1 : Int64) h1_ (xl X) r0 hr0) ⟨Nat.le_of_ble_eq_true rfl, Nat.le_of_ble_eq_true rfl⟩ rfl rfl (Nat.le_of_ble_eq_true rfl) dX6_sure_15 ⟨Nat.le_of_ble_eq_true rfl, Nat.le_of_ble_eq_true rfl⟩) (q := 18) rfl (cs' := 0) rfl (sl' := 0) rfl (fun v4_ h3_ => ?_)
    refine s_if_ne o (tgt := 24) dX6_sure_18 (by decide) (q := 21) rfl ?_ ?_
    · refine s_bipush o dX6_sure_24 (v := (63 : Int32)) (by decide) (q := 26) rfl ?_
      refine s_istore_n o [1, 2, 3, 0] (lv' := [(0, rf (xG X) x0), (1, .int x1), (2, .int x2), (3, .int (63 : Int32))]) rfl dX6_sure_26 (by decide) (q := 27) rfl ?_
      refine s_iconst o dX6_sure_27 (v := (0 : Int32)) (by decide) (q := 28) rfl ?_
      refine s_istore o [1, 2, 3, 4, 0] (lv' := [(0, rf (xG X) x0), (1, .int x1), (2, .int x2), (3, .int (63 : Int32)), (4, .int (0 : Int32))]) rfl dX6_sure_28 (by decide) (q := 30) rfl ?_
      refine s_iconst o dX6_sure_30 (v := (0 : Int32)) (by decide) (q := 31) rfl ?_
      refine s_istore o [1, 2, 3, 4, 5, 0] (lv' := [(0, rf (xG X) x0), (1, .int x1), (2, .int x2), (3, .int (63 : Int32)), (4, .int (0 : Int32)), (5, .int (0 : Int32))]) rfl dX6_sure_31 (by decide) (q := 33) rfl ?_
      refine s_iconst o dX6_sure_33 (v := (0 : Int32)) (by decide) (q := 34) rfl ?_
      refine s_istore o [1, 2, 3, 4, 5, 6, 0] (lv' := [(0, rf (xG X) x0), (1, .int x1), (2, .int x2), (3, .int (63 : Int32)), (4, .int (0 : Int32)), (5, .int (0 : Int32)), (6, .int (0 : Int32))]) rfl dX6_sure_34 (by decide) (q := 36) rfl ?_
      exact s_sub [0, 1, 2, 3, 4, 5, 6] rfl (tl_X6_sure_36 o f f x0 x1 x2 (63 : Int32) (0 : Int32) (0 : Int32) (0 : Int32) h3_)
    · refine s_ldc o kc_X6_125 dX6_sure_21 (q := 23) rfl ?_
      exact s_iret o dX6_sure_23
  · refine s_ldcw o kc_X6_266 dX6_sure_7 (q := 10) rfl ?_
    exact s_iret o dX6_sure_10
theorem c_X6_sure (G : Gx) (f : Nat) (x0 : Nat) (x1 : Int32) (x2 : Int32) (h : Hp) : z_M z_qi G yX6_sure cX6_sure 7 (some .int) 3 76 0 0 [rf G x0, .int x1, .int x2] h (f_X6_sure f x0 x1 x2 h) :=
  z_met (by decide +kernel) (Nat.le_of_ble_eq_true rfl) (fun X hG hn o hnm => by
    subst hG
    show Sim X (z_Zi X 0 0) 0 0 0 [(0, rf (xG X) x0), (1, .int x1), (2, .int x2)] [] h _
    exact s_sub [0, 1, 2] rfl (t_X6_sure_0 o f x0 x1 x2 h))
/-! SixMapsModel.told(I)I -/
def b_X6_told_79 (f : Nat)  (x0 : Nat) (x1 : Int32) (h : Hp) : Option (Int32 × Hp) :=
  (q_gr h x0 6 8).bind fun a1_ =>
  (q_ai h a1_ 9 (x1 - (3 : Int32))).bind fun v2_ =>
  some (v2_, h)
def f_X6_told (f : Nat)  (x0 : Nat) (x1 : Int32) (h : Hp) : Option (Int32 × Hp) :=
  sw x1 0 [
  ((q_gi h x0 6 0).bind fun v1_ =>
  some (v1_, h)), 
  ((q_gi h x0 6 5).bind fun v2_ =>
  some (v2_, h)), 
  ((q_gi h x0 6 7).bind fun v3_ =>
  some (v3_, h)), 
  (b_X6_told_79 f x0 x1 h), 
  (b_X6_told_79 f x0 x1 h), 
  (b_X6_told_79 f x0 x1 h), 
  ((q_gi h x0 6 9).bind fun v4_ =>
  some (v4_, h)), 
  ((q_gi h x0 6 10).bind fun v5_ =>
  some (v5_, h)), 
  ((q_gi h x0 6 19).bind fun v6_ =>
  some (v6_, h)), 
  ((q_gi h x0 6 13).bind fun v7_ =>
  some (v7_, h)), 
  ((q_gi h x0 6 50).bind fun v8_ =>
  some (v8_, h)), 
  ((q_gi h x0 6 16).bind fun v9_ =>
  some (v9_, h))] (some ((-1000002 : Int32), h))
set_option maxRecDepth 20000 in
theorem t_X6_told_79 {X : Cx} (o : Ok X RX6 cX6_told 2 0 0 0 0 (some .int)) (f : Nat)  (x0 : Nat) (x1 : Int32) (h : Hp) : Sim X (z_Zi X 0 0) 0 0 79 [(0, rf (xG X) x0), (1, .int x1)] [] h (b_X6_told_79 f x0 x1 h) := by
  unfold b_X6_told_79
  refine s_aload_n o 0 rfl dX6_told_79 (q := 80) rfl ?_
  refine s_gr o kf_X6_22 dX6_told_80 (q := 83) rfl (fun a1_ => ?_)
  refine s_iload_n o 1 rfl dX6_told_83 (q := 84) rfl ?_
  refine s_iconst o dX6_told_84 (v := (3 : Int32)) (by decide) (q := 85) rfl ?_
  refine s_isub o dX6_told_85 (q := 86) rfl ?_
  refine s_iald o dX6_told_86 (q := 87) rfl (fun v2_ => ?_)
  exact s_iret o dX6_told_87
set_option maxRecDepth 20000 in
theorem t_X6_told_0 {X : Cx} (o : Ok X RX6 cX6_told 2 0 0 0 0 (some .int)) (f : Nat)  (x0 : Nat) (x1 : Int32) (h : Hp) : Sim X (z_Zi X 0 0) 0 0 0 [(0, rf (xG X) x0), (1, .int x1)] [] h (f_X6_told f x0 x1 h) := by
  unfold f_X6_told
  refine s_iload_n o 1 rfl dX6_told_0 (q := 1) rfl ?_
  refine s_sw o dX6_told_1 rfl (tgD := 118) (by decide) ?_ (⟨⟨64, by decide, ?_⟩, ⟨69, by decide, ?_⟩, ⟨74, by decide, ?_⟩, ⟨79, by decide, ?_⟩, ⟨79, by decide, ?_⟩, ⟨79, by decide, ?_⟩, ⟨88, by decide, ?_⟩, ⟨93, by decide, ?_⟩, ⟨98, by decide, ?_⟩, ⟨103, by decide, ?_⟩, ⟨108, by decide, ?_⟩, ⟨113, by decide, ?_⟩, trivial⟩)
  · refine s_ldc o kc_X6_125 dX6_told_118 (q := 120) rfl ?_
    exact s_iret o dX6_told_120
  · refine s_aload_n o 0 rfl dX6_told_64 (q := 65) rfl ?_
    refine s_gi o kf_X6_111 dX6_told_65 (q := 68) rfl (fun v1_ => ?_)
    exact s_iret o dX6_told_68
  · refine s_aload_n o 0 rfl dX6_told_69 (q := 70) rfl ?_
    refine s_gi o kf_X6_250 dX6_told_70 (q := 73) rfl (fun v2_ => ?_)
    exact s_iret o dX6_told_73
  · refine s_aload_n o 0 rfl dX6_told_74 (q := 75) rfl ?_
    refine s_gi o kf_X6_256 dX6_told_75 (q := 78) rfl (fun v3_ => ?_)
    exact s_iret o dX6_told_78
  · exact s_sub [0, 1] rfl (t_X6_told_79 o f x0 x1 h)
  · exact s_sub [0, 1] rfl (t_X6_told_79 o f x0 x1 h)
  · exact s_sub [0, 1] rfl (t_X6_told_79 o f x0 x1 h)
  · refine s_aload_n o 0 rfl dX6_told_88 (q := 89) rfl ?_
    refine s_gi o kf_X6_25 dX6_told_89 (q := 92) rfl (fun v4_ => ?_)
    exact s_iret o dX6_told_92
  · refine s_aload_n o 0 rfl dX6_told_93 (q := 94) rfl ?_
    refine s_gi o kf_X6_29 dX6_told_94 (q := 97) rfl (fun v5_ => ?_)
    exact s_iret o dX6_told_97
  · refine s_aload_n o 0 rfl dX6_told_98 (q := 99) rfl ?_
    refine s_gi o kf_X6_126 dX6_told_99 (q := 102) rfl (fun v6_ => ?_)
    exact s_iret o dX6_told_102
  · refine s_aload_n o 0 rfl dX6_told_103 (q := 104) rfl ?_
    refine s_gi o kf_X6_120 dX6_told_104 (q := 107) rfl (fun v7_ => ?_)
    exact s_iret o dX6_told_107
  · refine s_aload_n o 0 rfl dX6_told_108 (q := 109) rfl ?_
    refine s_gi o kf_X6_259 dX6_told_109 (q := 112) rfl (fun v8_ => ?_)
    exact s_iret o dX6_told_112
  · refine s_aload_n o 0 rfl dX6_told_113 (q := 114) rfl ?_
    refine s_gi o kf_X6_44 dX6_told_114 (q := 117) rfl (fun v9_ => ?_)
    exact s_iret o dX6_told_117
theorem c_X6_told (G : Gx) (f : Nat) (x0 : Nat) (x1 : Int32) (h : Hp) : z_M z_qi G yX6_told cX6_told 2 (some .int) 0 0 0 0 [rf G x0, .int x1] h (f_X6_told f x0 x1 h) :=
  z_met (by decide +kernel) (Nat.le_of_ble_eq_true rfl) (fun X hG hn o hnm => by
    subst hG
    show Sim X (z_Zi X 0 0) 0 0 0 [(0, rf (xG X) x0), (1, .int x1)] [] h _
    exact s_sub [0, 1] rfl (t_X6_told_0 o f x0 x1 h))
/-! SixMapsModel.trade(IIII)I -/
def b_X6_trade_66 (f : Nat)   (h : Hp) : Option (Int32 × Hp) :=
  some ((-1000003 : Int32), h)
def b_X6_trade_25 (f : Nat)   (h : Hp) : Option (Int32 × Hp) :=
  some ((-1000001 : Int32), h)
def f_X6_trade (f : Nat)  (x0 : Nat) (x1 : Int32) (x2 : Int32) (x3 : Int32) (x4 : Int32) (h : Hp) : Option (Int32 × Hp) :=
  bi (f_X6_areTwo f x1 x3 h) fun v2_ h1_ =>
  if v2_ = 0 then
  (b_X6_trade_25 f h1_)
  else
  (q_on h1_ x0 6 (
  bi (f_X6_isMark f x0 x2 h1_) fun v5_ h4_ =>
  if v5_ = 0 then
  (b_X6_trade_25 f h4_)
  else
  (q_on h4_ x0 6 (
  bi (f_X6_isMark f x0 x4 h4_) fun v8_ h7_ =>
  if ¬ v8_ = 0 then
  ((q_gr h7_ x0 6 11).bind fun a9_ =>
  (q_ai h7_ a9_ 9 (((6 : Int32) * x3) + x1)).bind fun v10_ =>
  bi (f_X6_has f v10_ x2 h7_) fun v12_ h11_ =>
  if ¬ v12_ = 0 then
  (b_X6_trade_66 f h11_)
  else
  ((q_gr h11_ x0 6 11).bind fun a13_ =>
  (q_ai h11_ a13_ 9 (((6 : Int32) * x1) + x3)).bind fun v14_ =>
  bi (f_X6_has f v14_ x4 h11_) fun v16_ h15_ =>
  if v16_ = 0 then
  ((q_gr h15_ x0 6 11).bind fun a17_ =>
  (q_ai h15_ a17_ 9 (((6 : Int32) * x3) + x1)).bind fun v18_ =>
  (q_as h15_ a17_ 9 (((6 : Int32) * x3) + x1) (v18_ ||| ((1 : Int32) <<< (x2 &&& 31)))).bind fun h19_ =>
  (q_gr h19_ x0 6 11).bind fun a20_ =>
  (q_ai h19_ a20_ 9 (((6 : Int32) * x1) + x3)).bind fun v21_ =>
  (q_as h19_ a20_ 9 (((6 : Int32) * x1) + x3) (v21_ ||| ((1 : Int32) <<< (x4 &&& 31)))).bind fun h22_ =>
  some ((1 : Int32), h22_))
  else
  (b_X6_trade_66 f h15_)))
  else
  (b_X6_trade_25 f h7_)))))
set_option maxRecDepth 20000 in
theorem t_X6_trade_66 {X : Cx} (o : Ok X RX6 cX6_trade 5 3 66 0 0 (some .int)) (f : Nat)   (h : Hp) : Sim X (z_Zi X 0 0) 0 0 66 [] [] h (b_X6_trade_66 f h) := by
  unfold b_X6_trade_66
  refine s_ldcw o kc_X6_317 dX6_trade_66 (q := 69) rfl ?_
  exact s_iret o dX6_trade_69
set_option maxRecDepth 20000 in
theorem t_X6_trade_25 {X : Cx} (o : Ok X RX6 cX6_trade 5 3 66 0 0 (some .int)) (f : Nat)   (h : Hp) : Sim X (z_Zi X 0 0) 0 0 25 [] [] h (b_X6_trade_25 f h) := by
  unfold b_X6_trade_25
  refine s_ldcw o kc_X6_266 dX6_trade_25 (q := 28) rfl ?_
  exact s_iret o dX6_trade_28
set_option maxRecDepth 20000 in
theorem t_X6_trade_0 {X : Cx} (o : Ok X RX6 cX6_trade 5 3 66 0 0 (some .int)) (f : Nat)  (x0 : Nat) (x1 : Int32) (x2 : Int32) (x3 : Int32) (x4 : Int32) (h : Hp) : Sim X (z_Zi X 0 0) 0 0 0 [(0, rf (xG X) x0), (1, .int x1), (2, .int x2), (3, .int x3), (4, .int x4)] [] h (f_X6_trade f x0 x1 x2 x3 x4 h) := by
  unfold f_X6_trade
  refine s_iload_n o 1 rfl dX6_trade_0 (q := 1) rfl ?_
  refine s_iload_n o 3 rfl dX6_trade_1 (q := 2) rfl ?_
  refine s_bi (fun r0 hr0 => runS o cs_X6_321 (c_X6_areTwo (xG X) f x1 x3 h (xl X) r0 hr0) ⟨Nat.le_of_ble_eq_true rfl, Nat.le_of_ble_eq_true rfl⟩ rfl rfl (Nat.le_of_ble_eq_true rfl) dX6_trade_2 ⟨Nat.le_of_ble_eq_true rfl, Nat.le_of_ble_eq_true rfl⟩) (q := 5) rfl (cs' := 0) rfl (sl' := 0) rfl (fun v2_ h1_ => ?_)
  refine s_if_eq o (tgt := 25) dX6_trade_5 (by decide) (q := 8) rfl ?_ ?_
  · exact s_sub [] rfl (t_X6_trade_25 o f h1_)
  · refine s_aload_n o 0 rfl dX6_trade_8 (q := 9) rfl ?_
    refine s_iload_n o 2 rfl dX6_trade_9 (q := 10) rfl ?_
    refine s_on (fun hk3_ => ?_)
    refine s_bi (fun r0 hr0 => runV o hk3_ cv_X6_262 (c_X6_isMark (xG X) f x0 x2 h1_ (xl X) r0 hr0) ⟨Nat.le_of_ble_eq_true rfl, Nat.le_of_ble_eq_true rfl⟩ rfl rfl (Nat.le_of_ble_eq_true rfl) dX6_trade_10 ⟨Nat.le_of_ble_eq_true rfl, Nat.le_of_ble_eq_true rfl⟩) (q := 13) rfl (cs' := 0) rfl (sl' := 0) rfl (fun v5_ h4_ => ?_)
    refine s_if_eq o (tgt := 25) dX6_trade_13 (by decide) (q := 16) rfl ?_ ?_
    · exact s_sub [] rfl (t_X6_trade_25 o f h4_)
    · refine s_aload_n o 0 rfl dX6_trade_16 (q := 17) rfl ?_
      refine s_iload o 4 rfl dX6_trade_17 (q := 19) rfl ?_
      refine s_on (fun hk6_ => ?_)
      refine s_bi (fun r0 hr0 => runV o hk6_ cv_X6_262 (c_X6_isMark (xG X) f x0 x4 h4_ (xl X) r0 hr0) ⟨Nat.le_of_ble_eq_true rfl, Nat.le_of_ble_eq_true rfl⟩ rfl rfl (Nat.le_of_ble_eq_true rfl) dX6_trade_19 ⟨Nat.le_of_ble_eq_true rfl, Nat.le_of_ble_eq_true rfl⟩) (q := 22) rfl (cs' := 0) rfl (sl' := 0) rfl (fun v8_ h7_ => ?_)
      refine s_if_ne o (tgt := 29) dX6_trade_22 (by decide) (q := 25) rfl ?_ ?_
      · refine s_aload_n o 0 rfl dX6_trade_29 (q := 30) rfl ?_
        refine s_gr o kf_X6_32 dX6_trade_30 (q := 33) rfl (fun a9_ => ?_)
        refine s_bipush o dX6_trade_33 (v := (6 : Int32)) (by decide) (q := 35) rfl ?_
        refine s_iload_n o 3 rfl dX6_trade_35 (q := 36) rfl ?_
        refine s_imul o dX6_trade_36 (q := 37) rfl ?_
        refine s_iload_n o 1 rfl dX6_trade_37 (q := 38) rfl ?_
        refine s_iadd o dX6_trade_38 (q := 39) rfl ?_
        refine s_iald o dX6_trade_39 (q := 40) rfl (fun v10_ => ?_)
        refine s_iload_n o 2 rfl dX6_trade_40 (q := 41) rfl ?_
        refine s_bi (fun r0 hr0 => runS o cs_X6_182 (c_X6_has (xG X) f v10_ x2 h7_ (xl X) r0 hr0) ⟨Nat.le_of_ble_eq_true rfl, Nat.le_of_ble_eq_true rfl⟩ rfl rfl (Nat.le_of_ble_eq_true rfl) dX6_trade_41 ⟨Nat.le_of_ble_eq_true rfl, Nat.le_of_ble_eq_true rfl⟩) (q := 44) rfl (cs' := 0) rfl (sl' := 0) rfl (fun v12_ h11_ => ?_)
        refine s_if_ne o (tgt := 66) dX6_trade_44 (by decide) (q := 47) rfl ?_ ?_
        · exact s_sub [] rfl (t_X6_trade_66 o f h11_)
        · refine s_aload_n o 0 rfl dX6_trade_47 (q := 48) rfl ?_
          refine s_gr o kf_X6_32 dX6_trade_48 (q := 51) rfl (fun a13_ => ?_)
          refine s_bipush o dX6_trade_51 (v := (6 : Int32)) (by decide) (q := 53) rfl ?_
          refine s_iload_n o 1 rfl dX6_trade_53 (q := 54) rfl ?_
          refine s_imul o dX6_trade_54 (q := 55) rfl ?_
          refine s_iload_n o 3 rfl dX6_trade_55 (q := 56) rfl ?_
          refine s_iadd o dX6_trade_56 (q := 57) rfl ?_
          refine s_iald o dX6_trade_57 (q := 58) rfl (fun v14_ => ?_)
          refine s_iload o 4 rfl dX6_trade_58 (q := 60) rfl ?_
          refine s_bi (fun r0 hr0 => runS o cs_X6_182 (c_X6_has (xG X) f v14_ x4 h11_ (xl X) r0 hr0) ⟨Nat.le_of_ble_eq_true rfl, Nat.le_of_ble_eq_true rfl⟩ rfl rfl (Nat.le_of_ble_eq_true rfl) dX6_trade_60 ⟨Nat.le_of_ble_eq_true rfl, Nat.le_of_ble_eq_true rfl⟩) (q := 63) rfl (cs' := 0) rfl (sl' := 0) rfl (fun v16_ h15_ => ?_)
          refine s_if_eq o (tgt := 70) dX6_trade_63 (by decide) (q := 66) rfl ?_ ?_
          · refine s_aload_n o 0 rfl dX6_trade_70 (q := 71) rfl ?_
            refine s_gr o kf_X6_32 dX6_trade_71 (q := 74) rfl (fun a17_ => ?_)
            refine s_bipush o dX6_trade_74 (v := (6 : Int32)) (by decide) (q := 76) rfl ?_
            refine s_iload_n o 3 rfl dX6_trade_76 (q := 77) rfl ?_
            refine s_imul o dX6_trade_77 (q := 78) rfl ?_
            refine s_iload_n o 1 rfl dX6_trade_78 (q := 79) rfl ?_
            refine s_iadd o dX6_trade_79 (q := 80) rfl ?_
            refine s_dup2 o rfl rfl dX6_trade_80 (q := 81) rfl ?_
            refine s_iald o dX6_trade_81 (q := 82) rfl (fun v18_ => ?_)
            refine s_iconst o dX6_trade_82 (v := (1 : Int32)) (by decide) (q := 83) rfl ?_
            refine s_iload_n o 2 rfl dX6_trade_83 (q := 84) rfl ?_
            refine s_ishl o dX6_trade_84 (q := 85) rfl ?_
            refine s_ior o dX6_trade_85 (q := 86) rfl ?_
            refine s_iast o dX6_trade_86 (q := 87) rfl (fun h19_ => ?_)
            refine s_aload_n o 0 rfl dX6_trade_87 (q := 88) rfl ?_
            refine s_gr o kf_X6_32 dX6_trade_88 (q := 91) rfl (fun a20_ => ?_)
            refine s_bipush o dX6_trade_91 (v := (6 : Int32)) (by decide) (q := 93) rfl ?_
            refine s_iload_n o 1 rfl dX6_trade_93 (q := 94) rfl ?_
            refine s_imul o dX6_trade_94 (q := 95) rfl ?_
            refine s_iload_n o 3 rfl dX6_trade_95 (q := 96) rfl ?_
            refine s_iadd o dX6_trade_96 (q := 97) rfl ?_
            refine s_dup2 o rfl rfl dX6_trade_97 (q := 98) rfl ?_
            refine s_iald o dX6_trade_98 (q := 99) rfl (fun v21_ => ?_)
            refine s_iconst o dX6_trade_99 (v := (1 : Int32)) (by decide) (q := 100) rfl ?_
            refine s_iload o 4 rfl dX6_trade_100 (q := 102) rfl ?_
            refine s_ishl o dX6_trade_102 (q := 103) rfl ?_
            refine s_ior o dX6_trade_103 (q := 104) rfl ?_
            refine s_iast o dX6_trade_104 (q := 105) rfl (fun h22_ => ?_)
            refine s_iconst o dX6_trade_105 (v := (1 : Int32)) (by decide) (q := 106) rfl ?_
            exact s_iret o dX6_trade_106
          · exact s_sub [] rfl (t_X6_trade_66 o f h15_)
      · exact s_sub [] rfl (t_X6_trade_25 o f h7_)
theorem c_X6_trade (G : Gx) (f : Nat) (x0 : Nat) (x1 : Int32) (x2 : Int32) (x3 : Int32) (x4 : Int32) (h : Hp) : z_M z_qi G yX6_trade cX6_trade 5 (some .int) 3 66 0 0 [rf G x0, .int x1, .int x2, .int x3, .int x4] h (f_X6_trade f x0 x1 x2 x3 x4 h) :=
  z_met (by decide +kernel) (Nat.le_of_ble_eq_true rfl) (fun X hG hn o hnm => by
    subst hG
    show Sim X (z_Zi X 0 0) 0 0 0 [(0, rf (xG X) x0), (1, .int x1), (2, .int x2), (3, .int x3), (4, .int x4)] [] h _
    exact s_sub [0, 1, 2, 3, 4] rfl (t_X6_trade_0 o f x0 x1 x2 x3 x4 h))
